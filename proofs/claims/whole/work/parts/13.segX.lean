/-! printed by wip/gen: stretches of the bytecode -/
theorem dX0_forget_0 : decode cX0_forget 0 = .ok (.aload_n 0, 1) := by decide +kernel
theorem dX0_forget_1 : decode cX0_forget 1 = .ok (.iconst 0, 1) := by decide +kernel
theorem dX0_forget_2 : decode cX0_forget 2 = .ok (.putfield 21, 3) := by decide +kernel
theorem dX0_forget_5 : decode cX0_forget 5 = .ok (.aload_n 0, 1) := by decide +kernel
theorem dX0_forget_6 : decode cX0_forget 6 = .ok (.iconst 0, 1) := by decide +kernel
theorem dX0_forget_7 : decode cX0_forget 7 = .ok (.putfield 25, 3) := by decide +kernel
theorem dX0_forget_10 : decode cX0_forget 10 = .ok (.return_, 1) := by decide +kernel
def R_X0_forget  (σ : kS) (τ : kS) : Prop := Run SX jX0_forget [(.ref 20)] σ none τ
set_option maxRecDepth 20000 in
theorem t_X0_forget  {σ : kS} {τ : kS}  (h : τ = (k_si (k_si σ 20 0 (0 : Int32)) 20 1 (0 : Int32))) : R_X0_forget  σ τ := by
  refine x_run [some (.ref 20)] (by decide +kernel) rfl (Nat.le_of_ble_eq_true rfl) ?_
  refine x_aload_n (pc := 0) 0 dX0_forget_0 rfl rfl ?_
  refine x_iconst (pc := 1) (0 : Int32) dX0_forget_1 (by decide +kernel) ?_
  refine x_putI (pc := 2) dX0_forget_2 pX0_21 rfl rfl ?_
  refine x_aload_n (pc := 5) 0 dX0_forget_5 rfl rfl ?_
  refine x_iconst (pc := 6) (0 : Int32) dX0_forget_6 (by decide +kernel) ?_
  refine x_putI (pc := 7) dX0_forget_7 pX0_25 rfl rfl ?_
  exact x_return2 (pc := 10) dX0_forget_10 rfl h
theorem dX0_keep_0 : decode cX0_keep 0 = .ok (.aload_n 0, 1) := by decide +kernel
theorem dX0_keep_1 : decode cX0_keep 1 = .ok (.getfield 9, 3) := by decide +kernel
theorem dX0_keep_4 : decode cX0_keep 4 = .ok (.aload_n 0, 1) := by decide +kernel
theorem dX0_keep_5 : decode cX0_keep 5 = .ok (.getfield 25, 3) := by decide +kernel
theorem dX0_keep_8 : decode cX0_keep 8 = .ok (.iload_n 1, 1) := by decide +kernel
theorem dX0_keep_9 : decode cX0_keep 9 = .ok (.iastore, 1) := by decide +kernel
theorem dX0_keep_10 : decode cX0_keep 10 = .ok (.aload_n 0, 1) := by decide +kernel
theorem dX0_keep_11 : decode cX0_keep 11 = .ok (.getfield 15, 3) := by decide +kernel
theorem dX0_keep_14 : decode cX0_keep 14 = .ok (.aload_n 0, 1) := by decide +kernel
theorem dX0_keep_15 : decode cX0_keep 15 = .ok (.getfield 25, 3) := by decide +kernel
theorem dX0_keep_18 : decode cX0_keep 18 = .ok (.iload_n 2, 1) := by decide +kernel
theorem dX0_keep_19 : decode cX0_keep 19 = .ok (.iastore, 1) := by decide +kernel
theorem dX0_keep_20 : decode cX0_keep 20 = .ok (.aload_n 0, 1) := by decide +kernel
theorem dX0_keep_21 : decode cX0_keep 21 = .ok (.getfield 18, 3) := by decide +kernel
theorem dX0_keep_24 : decode cX0_keep 24 = .ok (.aload_n 0, 1) := by decide +kernel
theorem dX0_keep_25 : decode cX0_keep 25 = .ok (.getfield 25, 3) := by decide +kernel
theorem dX0_keep_28 : decode cX0_keep 28 = .ok (.iload_n 3, 1) := by decide +kernel
theorem dX0_keep_29 : decode cX0_keep 29 = .ok (.iastore, 1) := by decide +kernel
theorem dX0_keep_30 : decode cX0_keep 30 = .ok (.aload_n 0, 1) := by decide +kernel
theorem dX0_keep_31 : decode cX0_keep 31 = .ok (.aload_n 0, 1) := by decide +kernel
theorem dX0_keep_32 : decode cX0_keep 32 = .ok (.getfield 25, 3) := by decide +kernel
theorem dX0_keep_35 : decode cX0_keep 35 = .ok (.iconst 1, 1) := by decide +kernel
theorem dX0_keep_36 : decode cX0_keep 36 = .ok (.iadd, 1) := by decide +kernel
theorem dX0_keep_37 : decode cX0_keep 37 = .ok (.bipush 24, 2) := by decide +kernel
theorem dX0_keep_39 : decode cX0_keep 39 = .ok (.irem, 1) := by decide +kernel
theorem dX0_keep_40 : decode cX0_keep 40 = .ok (.putfield 25, 3) := by decide +kernel
theorem dX0_keep_43 : decode cX0_keep 43 = .ok (.aload_n 0, 1) := by decide +kernel
theorem dX0_keep_44 : decode cX0_keep 44 = .ok (.bipush 24, 2) := by decide +kernel
theorem dX0_keep_46 : decode cX0_keep 46 = .ok (.aload_n 0, 1) := by decide +kernel
theorem dX0_keep_47 : decode cX0_keep 47 = .ok (.getfield 21, 3) := by decide +kernel
theorem dX0_keep_50 : decode cX0_keep 50 = .ok (.iconst 1, 1) := by decide +kernel
theorem dX0_keep_51 : decode cX0_keep 51 = .ok (.iadd, 1) := by decide +kernel
theorem dX0_keep_52 : decode cX0_keep 52 = .ok (.invokestatic 28, 3) := by decide +kernel
theorem dX0_keep_55 : decode cX0_keep 55 = .ok (.putfield 21, 3) := by decide +kernel
theorem dX0_keep_58 : decode cX0_keep 58 = .ok (.return_, 1) := by decide +kernel
def R_X0_keep (a1 : Int32) (a2 : Int32) (a3 : Int32) (σ : kS) (τ : kS) : Prop := Run SX jX0_keep [(.ref 20), (.int a1), (.int a2), (.int a3)] σ none τ
set_option maxRecDepth 20000 in
theorem t_X0_keep {a1 : Int32} {a2 : Int32} {a3 : Int32} {σ : kS} {τ : kS}  (h : vp_in (σ.1 20 1) 24 ∧ (vp_in (σ.1 20 1) 24 ∧ (vp_in (σ.1 20 1) 24 ∧ (τ = (k_si (k_si (k_si (k_si (k_si σ 21 (σ.1 20 1).toNatClampNeg a1) 22 (σ.1 20 1).toNatClampNeg a2) 23 (σ.1 20 1).toNatClampNeg a3) 20 1 (((σ.1 20 1) + (1 : Int32)) - ((σ.1 20 1) + (1 : Int32)) / (24 : Int32) * (24 : Int32))) 20 0 (mn (24 : Int32) ((σ.1 20 0) + (1 : Int32)))))))) : R_X0_keep a1 a2 a3 σ τ := by
  refine x_run [some (.ref 20), some (.int a1), some (.int a2), some (.int a3)] (by decide +kernel) rfl (Nat.le_of_ble_eq_true rfl) ?_
  refine x_aload_n (pc := 0) 0 dX0_keep_0 rfl rfl ?_
  refine x_getR (pc := 1) dX0_keep_1 fX0_9 rfl rfl ?_
  refine x_aload_n (pc := 4) 0 dX0_keep_4 rfl rfl ?_
  refine x_getI (pc := 5) dX0_keep_5 fX0_25 rfl rfl ?_
  refine x_iload_n (pc := 8) 1 dX0_keep_8 rfl rfl ?_
  obtain ⟨g1, h⟩ := h
  refine x_iastore (pc := 9) (n := 24) dX0_keep_9 rfl g1 ?_
  refine x_aload_n (pc := 10) 0 dX0_keep_10 rfl rfl ?_
  refine x_getR (pc := 11) dX0_keep_11 fX0_15 rfl rfl ?_
  refine x_aload_n (pc := 14) 0 dX0_keep_14 rfl rfl ?_
  refine x_getI (pc := 15) dX0_keep_15 fX0_25 rfl rfl ?_
  refine x_iload_n (pc := 18) 2 dX0_keep_18 rfl rfl ?_
  obtain ⟨g2, h⟩ := h
  refine x_iastore (pc := 19) (n := 24) dX0_keep_19 rfl g2 ?_
  refine x_aload_n (pc := 20) 0 dX0_keep_20 rfl rfl ?_
  refine x_getR (pc := 21) dX0_keep_21 fX0_18 rfl rfl ?_
  refine x_aload_n (pc := 24) 0 dX0_keep_24 rfl rfl ?_
  refine x_getI (pc := 25) dX0_keep_25 fX0_25 rfl rfl ?_
  refine x_iload_n (pc := 28) 3 dX0_keep_28 rfl rfl ?_
  obtain ⟨g3, h⟩ := h
  refine x_iastore (pc := 29) (n := 24) dX0_keep_29 rfl g3 ?_
  refine x_aload_n (pc := 30) 0 dX0_keep_30 rfl rfl ?_
  refine x_aload_n (pc := 31) 0 dX0_keep_31 rfl rfl ?_
  refine x_getI (pc := 32) dX0_keep_32 fX0_25 rfl rfl ?_
  refine x_iconst (pc := 35) (1 : Int32) dX0_keep_35 (by decide +kernel) ?_
  refine x_iadd (pc := 36) dX0_keep_36 ?_
  refine x_bipush (pc := 37) (24 : Int32) dX0_keep_37 (by decide +kernel) ?_
  refine x_irem (pc := 39) dX0_keep_39 (by decide) ?_
  refine x_putI (pc := 40) dX0_keep_40 pX0_25 rfl rfl ?_
  refine x_aload_n (pc := 43) 0 dX0_keep_43 rfl rfl ?_
  refine x_bipush (pc := 44) (24 : Int32) dX0_keep_44 (by decide +kernel) ?_
  refine x_aload_n (pc := 46) 0 dX0_keep_46 rfl rfl ?_
  refine x_getI (pc := 47) dX0_keep_47 fX0_21 rfl rfl ?_
  refine x_iconst (pc := 50) (1 : Int32) dX0_keep_50 (by decide +kernel) ?_
  refine x_iadd (pc := 51) dX0_keep_51 ?_
  refine x_callS (pc := 52) [(.int (24 : Int32)), (.int ((σ.1 20 0) + (1 : Int32)))] [(.ref 20)] dX0_keep_52 ⟨⟨hJ9_min_7cf53.1, hJ9_min_7cf53.2.1, hJ9_min_7cf53.2.2, by decide⟩, mX0_28, sJ9_min_7cf53⟩ rfl rfl (Nat.le_of_ble_eq_true rfl) (i_min) ?_
  refine x_putI (pc := 55) dX0_keep_55 pX0_21 rfl rfl ?_
  exact x_return2 (pc := 58) dX0_keep_58 rfl h
theorem dX7_unpackTired_0 : decode cX7_unpackTired 0 = .ok (.iconst 0, 1) := by decide +kernel
theorem dX7_unpackTired_1 : decode cX7_unpackTired 1 = .ok (.istore_n 2, 1) := by decide +kernel
theorem dX7_unpackTired_2 : decode cX7_unpackTired 2 = .ok (.iload_n 2, 1) := by decide +kernel
theorem dX7_unpackTired_3 : decode cX7_unpackTired 3 = .ok (.aload_n 0, 1) := by decide +kernel
theorem dX7_unpackTired_4 : decode cX7_unpackTired 4 = .ok (.getfield 37, 3) := by decide +kernel
theorem dX7_unpackTired_7 : decode cX7_unpackTired 7 = .ok (.if_icmp .ge 23, 3) := by decide +kernel
theorem dX7_unpackTired_10 : decode cX7_unpackTired 10 = .ok (.aload_n 0, 1) := by decide +kernel
theorem dX7_unpackTired_11 : decode cX7_unpackTired 11 = .ok (.getfield 30, 3) := by decide +kernel
theorem dX7_unpackTired_14 : decode cX7_unpackTired 14 = .ok (.iload_n 2, 1) := by decide +kernel
theorem dX7_unpackTired_15 : decode cX7_unpackTired 15 = .ok (.iload_n 1, 1) := by decide +kernel
theorem dX7_unpackTired_16 : decode cX7_unpackTired 16 = .ok (.iconst 4, 1) := by decide +kernel
theorem dX7_unpackTired_17 : decode cX7_unpackTired 17 = .ok (.iload_n 2, 1) := by decide +kernel
theorem dX7_unpackTired_18 : decode cX7_unpackTired 18 = .ok (.imul, 1) := by decide +kernel
theorem dX7_unpackTired_19 : decode cX7_unpackTired 19 = .ok (.ishr, 1) := by decide +kernel
theorem dX7_unpackTired_20 : decode cX7_unpackTired 20 = .ok (.bipush 15, 2) := by decide +kernel
theorem dX7_unpackTired_22 : decode cX7_unpackTired 22 = .ok (.iand, 1) := by decide +kernel
theorem dX7_unpackTired_23 : decode cX7_unpackTired 23 = .ok (.iastore, 1) := by decide +kernel
theorem dX7_unpackTired_24 : decode cX7_unpackTired 24 = .ok (.iinc 2 1, 3) := by decide +kernel
theorem dX7_unpackTired_27 : decode cX7_unpackTired 27 = .ok (.goto (-25), 3) := by decide +kernel
theorem dX7_unpackTired_30 : decode cX7_unpackTired 30 = .ok (.return_, 1) := by decide +kernel
def R_X7_unpackTired (v : Nat) (a1 : Int32) (σ : kS) (τ : kS) : Prop := Run SX jX7_unpackTired [(.ref v), (.int a1)] σ none τ
def E_X7_unpackTired_2 (v : Nat) (l1 : Int32) (l2 : Int32) (σ : kS) (τ : kS) : Prop := Ex SX jX7_unpackTired 2 [some (.ref v), some (.int l1), some (.int l2)] [] σ none τ
set_option maxRecDepth 20000 in
theorem t_X7_unpackTired {v : Nat} {a1 : Int32} {σ : kS} {τ : kS} (hv : k_vly v = true) (h : E_X7_unpackTired_2 v a1 (0 : Int32) σ τ) : R_X7_unpackTired v a1 σ τ := by
  refine x_run [some (.ref v), some (.int a1), none] (by decide +kernel) rfl (Nat.le_of_ble_eq_true rfl) ?_
  refine x_iconst (pc := 0) (0 : Int32) dX7_unpackTired_0 (by decide +kernel) ?_
  refine x_istore_n (pc := 1) 2 dX7_unpackTired_1 rfl (by decide) rfl ?_
  exact h
set_option maxRecDepth 20000 in
theorem t_X7_unpackTired_2 {v : Nat} {l1 : Int32} {l2 : Int32} {σ : kS} {τ : kS} (hv : k_vly v = true) (h : ((σ.1 v 2) ≤ l2 → τ = σ) ∧ (¬ (σ.1 v 2) ≤ l2 → vp_in l2 5 ∧ (E_X7_unpackTired_2 v l1 (l2 + (1 : Int32)) (k_si σ (v + 7) l2.toNatClampNeg ((l1 >>> (((4 : Int32) * l2) &&& 31)) &&& (15 : Int32))) τ))) : E_X7_unpackTired_2 v l1 l2 σ τ := by
  unfold E_X7_unpackTired_2
  refine x_iload_n (pc := 2) 2 dX7_unpackTired_2 rfl rfl ?_
  refine x_aload_n (pc := 3) 0 dX7_unpackTired_3 rfl rfl ?_
  refine x_getI (pc := 4) dX7_unpackTired_4 fX7_37 (vl_is hv) (vl_i2 hv) ?_
  refine x_icmp_ge (pc := 7) 30 dX7_unpackTired_7 (by decide) (fun c1 => ?_) (fun c1 => ?_)
  · replace h := h.1 c1
    exact x_return2 (pc := 30) dX7_unpackTired_30 rfl h
  · replace h := h.2 c1
    refine x_aload_n (pc := 10) 0 dX7_unpackTired_10 rfl rfl ?_
    refine x_getR (pc := 11) dX7_unpackTired_11 fX7_30 (vl_is hv) (vl_r10 hv) ?_
    refine x_iload_n (pc := 14) 2 dX7_unpackTired_14 rfl rfl ?_
    refine x_iload_n (pc := 15) 1 dX7_unpackTired_15 rfl rfl ?_
    refine x_iconst (pc := 16) (4 : Int32) dX7_unpackTired_16 (by decide +kernel) ?_
    refine x_iload_n (pc := 17) 2 dX7_unpackTired_17 rfl rfl ?_
    refine x_imul (pc := 18) dX7_unpackTired_18 ?_
    refine x_ishr (pc := 19) dX7_unpackTired_19 ?_
    refine x_bipush (pc := 20) (15 : Int32) dX7_unpackTired_20 (by decide +kernel) ?_
    refine x_iand (pc := 22) dX7_unpackTired_22 ?_
    obtain ⟨g2, h⟩ := h
    refine x_iastore (pc := 23) (n := 5) dX7_unpackTired_23 (vl_a10 hv) g2 ?_
    refine x_iinc (pc := 24) (1 : Int32) dX7_unpackTired_24 (by decide) rfl rfl (by decide +kernel) ?_
    refine x_goto (pc := 27) 2 dX7_unpackTired_27 (by decide) ?_
    exact h
theorem dX7_turnPitch_0 : decode cX7_turnPitch 0 = .ok (.aload_n 0, 1) := by decide +kernel
theorem dX7_turnPitch_1 : decode cX7_turnPitch 1 = .ok (.getfield 15, 3) := by decide +kernel
theorem dX7_turnPitch_4 : decode cX7_turnPitch 4 = .ok (.iload_n 1, 1) := by decide +kernel
theorem dX7_turnPitch_5 : decode cX7_turnPitch 5 = .ok (.dup2, 1) := by decide +kernel
theorem dX7_turnPitch_6 : decode cX7_turnPitch 6 = .ok (.iaload, 1) := by decide +kernel
theorem dX7_turnPitch_7 : decode cX7_turnPitch 7 = .ok (.iconst 1, 1) := by decide +kernel
theorem dX7_turnPitch_8 : decode cX7_turnPitch 8 = .ok (.iload_n 2, 1) := by decide +kernel
theorem dX7_turnPitch_9 : decode cX7_turnPitch 9 = .ok (.ishl, 1) := by decide +kernel
theorem dX7_turnPitch_10 : decode cX7_turnPitch 10 = .ok (.ixor, 1) := by decide +kernel
theorem dX7_turnPitch_11 : decode cX7_turnPitch 11 = .ok (.iastore, 1) := by decide +kernel
theorem dX7_turnPitch_12 : decode cX7_turnPitch 12 = .ok (.return_, 1) := by decide +kernel
def R_X7_turnPitch (v : Nat) (a1 : Int32) (a2 : Int32) (σ : kS) (τ : kS) : Prop := Run SX jX7_turnPitch [(.ref v), (.int a1), (.int a2)] σ none τ
set_option maxRecDepth 20000 in
theorem t_X7_turnPitch {v : Nat} {a1 : Int32} {a2 : Int32} {σ : kS} {τ : kS} (hv : k_vly v = true) (h : vp_in a1 5 ∧ (vp_in a1 5 ∧ (τ = (k_si σ (v + 2) a1.toNatClampNeg ((σ.1 (v + 2) a1.toNatClampNeg) ^^^ ((1 : Int32) <<< (a2 &&& 31))))))) : R_X7_turnPitch v a1 a2 σ τ := by
  refine x_run [some (.ref v), some (.int a1), some (.int a2)] (by decide +kernel) rfl (Nat.le_of_ble_eq_true rfl) ?_
  refine x_aload_n (pc := 0) 0 dX7_turnPitch_0 rfl rfl ?_
  refine x_getR (pc := 1) dX7_turnPitch_1 fX7_15 (vl_is hv) (vl_r5 hv) ?_
  refine x_iload_n (pc := 4) 1 dX7_turnPitch_4 rfl rfl ?_
  refine x_dup2 (pc := 5) dX7_turnPitch_5 rfl rfl ?_
  obtain ⟨g1, h⟩ := h
  refine x_iaload (pc := 6) (n := 5) dX7_turnPitch_6 (vl_a5 hv) g1 ?_
  refine x_iconst (pc := 7) (1 : Int32) dX7_turnPitch_7 (by decide +kernel) ?_
  refine x_iload_n (pc := 8) 2 dX7_turnPitch_8 rfl rfl ?_
  refine x_ishl (pc := 9) dX7_turnPitch_9 ?_
  refine x_ixor (pc := 10) dX7_turnPitch_10 ?_
  obtain ⟨g2, h⟩ := h
  refine x_iastore (pc := 11) (n := 5) dX7_turnPitch_11 (vl_a5 hv) g2 ?_
  exact x_return2 (pc := 12) dX7_turnPitch_12 rfl h
theorem dX0_takeBack_0 : decode cX0_takeBack 0 = .ok (.aload_n 0, 1) := by decide +kernel
theorem dX0_takeBack_1 : decode cX0_takeBack 1 = .ok (.aload_n 0, 1) := by decide +kernel
theorem dX0_takeBack_2 : decode cX0_takeBack 2 = .ok (.getfield 25, 3) := by decide +kernel
theorem dX0_takeBack_5 : decode cX0_takeBack 5 = .ok (.bipush 24, 2) := by decide +kernel
theorem dX0_takeBack_7 : decode cX0_takeBack 7 = .ok (.iadd, 1) := by decide +kernel
theorem dX0_takeBack_8 : decode cX0_takeBack 8 = .ok (.iconst 1, 1) := by decide +kernel
theorem dX0_takeBack_9 : decode cX0_takeBack 9 = .ok (.isub, 1) := by decide +kernel
theorem dX0_takeBack_10 : decode cX0_takeBack 10 = .ok (.bipush 24, 2) := by decide +kernel
theorem dX0_takeBack_12 : decode cX0_takeBack 12 = .ok (.irem, 1) := by decide +kernel
theorem dX0_takeBack_13 : decode cX0_takeBack 13 = .ok (.putfield 25, 3) := by decide +kernel
theorem dX0_takeBack_16 : decode cX0_takeBack 16 = .ok (.aload_n 0, 1) := by decide +kernel
theorem dX0_takeBack_17 : decode cX0_takeBack 17 = .ok (.dup, 1) := by decide +kernel
theorem dX0_takeBack_18 : decode cX0_takeBack 18 = .ok (.getfield 21, 3) := by decide +kernel
theorem dX0_takeBack_21 : decode cX0_takeBack 21 = .ok (.iconst 1, 1) := by decide +kernel
theorem dX0_takeBack_22 : decode cX0_takeBack 22 = .ok (.isub, 1) := by decide +kernel
theorem dX0_takeBack_23 : decode cX0_takeBack 23 = .ok (.putfield 21, 3) := by decide +kernel
theorem dX0_takeBack_26 : decode cX0_takeBack 26 = .ok (.aload_n 0, 1) := by decide +kernel
theorem dX0_takeBack_27 : decode cX0_takeBack 27 = .ok (.getfield 9, 3) := by decide +kernel
theorem dX0_takeBack_30 : decode cX0_takeBack 30 = .ok (.aload_n 0, 1) := by decide +kernel
theorem dX0_takeBack_31 : decode cX0_takeBack 31 = .ok (.getfield 25, 3) := by decide +kernel
theorem dX0_takeBack_34 : decode cX0_takeBack 34 = .ok (.iaload, 1) := by decide +kernel
theorem dX0_takeBack_35 : decode cX0_takeBack 35 = .ok (.lookupswitch 77 #[(0, 25), (1, 51)], 25) := by decide +kernel
theorem dX0_takeBack_60 : decode cX0_takeBack 60 = .ok (.aload_n 1, 1) := by decide +kernel
theorem dX0_takeBack_61 : decode cX0_takeBack 61 = .ok (.aload_n 0, 1) := by decide +kernel
theorem dX0_takeBack_62 : decode cX0_takeBack 62 = .ok (.getfield 15, 3) := by decide +kernel
theorem dX0_takeBack_65 : decode cX0_takeBack 65 = .ok (.aload_n 0, 1) := by decide +kernel
theorem dX0_takeBack_66 : decode cX0_takeBack 66 = .ok (.getfield 25, 3) := by decide +kernel
theorem dX0_takeBack_69 : decode cX0_takeBack 69 = .ok (.iaload, 1) := by decide +kernel
theorem dX0_takeBack_70 : decode cX0_takeBack 70 = .ok (.invokevirtual 34, 3) := by decide +kernel
theorem dX0_takeBack_73 : decode cX0_takeBack 73 = .ok (.aload_n 1, 1) := by decide +kernel
theorem dX0_takeBack_74 : decode cX0_takeBack 74 = .ok (.dup, 1) := by decide +kernel
theorem dX0_takeBack_75 : decode cX0_takeBack 75 = .ok (.getfield 40, 3) := by decide +kernel
theorem dX0_takeBack_78 : decode cX0_takeBack 78 = .ok (.iconst 1, 1) := by decide +kernel
theorem dX0_takeBack_79 : decode cX0_takeBack 79 = .ok (.isub, 1) := by decide +kernel
theorem dX0_takeBack_80 : decode cX0_takeBack 80 = .ok (.putfield 40, 3) := by decide +kernel
theorem dX0_takeBack_83 : decode cX0_takeBack 83 = .ok (.goto 51, 3) := by decide +kernel
theorem dX0_takeBack_86 : decode cX0_takeBack 86 = .ok (.aload_n 1, 1) := by decide +kernel
theorem dX0_takeBack_87 : decode cX0_takeBack 87 = .ok (.getfield 43, 3) := by decide +kernel
theorem dX0_takeBack_90 : decode cX0_takeBack 90 = .ok (.aload_n 0, 1) := by decide +kernel
theorem dX0_takeBack_91 : decode cX0_takeBack 91 = .ok (.getfield 15, 3) := by decide +kernel
theorem dX0_takeBack_94 : decode cX0_takeBack 94 = .ok (.aload_n 0, 1) := by decide +kernel
theorem dX0_takeBack_95 : decode cX0_takeBack 95 = .ok (.getfield 25, 3) := by decide +kernel
theorem dX0_takeBack_98 : decode cX0_takeBack 98 = .ok (.iaload, 1) := by decide +kernel
theorem dX0_takeBack_99 : decode cX0_takeBack 99 = .ok (.aload_n 0, 1) := by decide +kernel
theorem dX0_takeBack_100 : decode cX0_takeBack 100 = .ok (.getfield 18, 3) := by decide +kernel
theorem dX0_takeBack_103 : decode cX0_takeBack 103 = .ok (.aload_n 0, 1) := by decide +kernel
theorem dX0_takeBack_104 : decode cX0_takeBack 104 = .ok (.getfield 25, 3) := by decide +kernel
theorem dX0_takeBack_107 : decode cX0_takeBack 107 = .ok (.iaload, 1) := by decide +kernel
theorem dX0_takeBack_108 : decode cX0_takeBack 108 = .ok (.iastore, 1) := by decide +kernel
theorem dX0_takeBack_109 : decode cX0_takeBack 109 = .ok (.goto 25, 3) := by decide +kernel
theorem dX0_takeBack_112 : decode cX0_takeBack 112 = .ok (.aload_n 1, 1) := by decide +kernel
theorem dX0_takeBack_113 : decode cX0_takeBack 113 = .ok (.aload_n 0, 1) := by decide +kernel
theorem dX0_takeBack_114 : decode cX0_takeBack 114 = .ok (.getfield 15, 3) := by decide +kernel
theorem dX0_takeBack_117 : decode cX0_takeBack 117 = .ok (.aload_n 0, 1) := by decide +kernel
theorem dX0_takeBack_118 : decode cX0_takeBack 118 = .ok (.getfield 25, 3) := by decide +kernel
theorem dX0_takeBack_121 : decode cX0_takeBack 121 = .ok (.iaload, 1) := by decide +kernel
theorem dX0_takeBack_122 : decode cX0_takeBack 122 = .ok (.aload_n 0, 1) := by decide +kernel
theorem dX0_takeBack_123 : decode cX0_takeBack 123 = .ok (.getfield 18, 3) := by decide +kernel
theorem dX0_takeBack_126 : decode cX0_takeBack 126 = .ok (.aload_n 0, 1) := by decide +kernel
theorem dX0_takeBack_127 : decode cX0_takeBack 127 = .ok (.getfield 25, 3) := by decide +kernel
theorem dX0_takeBack_130 : decode cX0_takeBack 130 = .ok (.iaload, 1) := by decide +kernel
theorem dX0_takeBack_131 : decode cX0_takeBack 131 = .ok (.invokevirtual 46, 3) := by decide +kernel
theorem dX0_takeBack_134 : decode cX0_takeBack 134 = .ok (.return_, 1) := by decide +kernel
def R_X0_takeBack  (σ : kS) (τ : kS) : Prop := Run SX jX0_takeBack [(.ref 20), (.ref 3)] σ none τ
set_option maxRecDepth 20000 in
theorem t_X0_takeBack  {σ : kS} {τ : kS}  (h : vp_in ((((σ.1 20 1) + (24 : Int32)) - (1 : Int32)) - (((σ.1 20 1) + (24 : Int32)) - (1 : Int32)) / (24 : Int32) * (24 : Int32)) 24 ∧ (((σ.1 21 ((((σ.1 20 1) + (24 : Int32)) - (1 : Int32)) - (((σ.1 20 1) + (24 : Int32)) - (1 : Int32)) / (24 : Int32) * (24 : Int32)).toNatClampNeg).toInt = 0 → vp_in ((((σ.1 20 1) + (24 : Int32)) - (1 : Int32)) - (((σ.1 20 1) + (24 : Int32)) - (1 : Int32)) / (24 : Int32) * (24 : Int32)) 24 ∧ (∃ s4 : kS, R_X7_unpackTired 3 (σ.1 22 ((((σ.1 20 1) + (24 : Int32)) - (1 : Int32)) - (((σ.1 20 1) + (24 : Int32)) - (1 : Int32)) / (24 : Int32) * (24 : Int32)).toNatClampNeg) (k_si (k_si σ 20 1 ((((σ.1 20 1) + (24 : Int32)) - (1 : Int32)) - (((σ.1 20 1) + (24 : Int32)) - (1 : Int32)) / (24 : Int32) * (24 : Int32))) 20 0 ((σ.1 20 0) - (1 : Int32))) s4 ∧ (τ = (k_si s4 3 3 ((s4.1 3 3) - (1 : Int32)))))) ∧ (¬ (σ.1 21 ((((σ.1 20 1) + (24 : Int32)) - (1 : Int32)) - (((σ.1 20 1) + (24 : Int32)) - (1 : Int32)) / (24 : Int32) * (24 : Int32)).toNatClampNeg).toInt = 0 → ((σ.1 21 ((((σ.1 20 1) + (24 : Int32)) - (1 : Int32)) - (((σ.1 20 1) + (24 : Int32)) - (1 : Int32)) / (24 : Int32) * (24 : Int32)).toNatClampNeg).toInt = 1 → vp_in ((((σ.1 20 1) + (24 : Int32)) - (1 : Int32)) - (((σ.1 20 1) + (24 : Int32)) - (1 : Int32)) / (24 : Int32) * (24 : Int32)) 24 ∧ (vp_in ((((σ.1 20 1) + (24 : Int32)) - (1 : Int32)) - (((σ.1 20 1) + (24 : Int32)) - (1 : Int32)) / (24 : Int32) * (24 : Int32)) 24 ∧ (vp_in (σ.1 22 ((((σ.1 20 1) + (24 : Int32)) - (1 : Int32)) - (((σ.1 20 1) + (24 : Int32)) - (1 : Int32)) / (24 : Int32) * (24 : Int32)).toNatClampNeg) 5 ∧ (τ = (k_si (k_si (k_si σ 20 1 ((((σ.1 20 1) + (24 : Int32)) - (1 : Int32)) - (((σ.1 20 1) + (24 : Int32)) - (1 : Int32)) / (24 : Int32) * (24 : Int32))) 20 0 ((σ.1 20 0) - (1 : Int32))) 9 (σ.1 22 ((((σ.1 20 1) + (24 : Int32)) - (1 : Int32)) - (((σ.1 20 1) + (24 : Int32)) - (1 : Int32)) / (24 : Int32) * (24 : Int32)).toNatClampNeg).toNatClampNeg (σ.1 23 ((((σ.1 20 1) + (24 : Int32)) - (1 : Int32)) - (((σ.1 20 1) + (24 : Int32)) - (1 : Int32)) / (24 : Int32) * (24 : Int32)).toNatClampNeg)))))) ∧ (¬ (σ.1 21 ((((σ.1 20 1) + (24 : Int32)) - (1 : Int32)) - (((σ.1 20 1) + (24 : Int32)) - (1 : Int32)) / (24 : Int32) * (24 : Int32)).toNatClampNeg).toInt = 1 → vp_in ((((σ.1 20 1) + (24 : Int32)) - (1 : Int32)) - (((σ.1 20 1) + (24 : Int32)) - (1 : Int32)) / (24 : Int32) * (24 : Int32)) 24 ∧ (vp_in ((((σ.1 20 1) + (24 : Int32)) - (1 : Int32)) - (((σ.1 20 1) + (24 : Int32)) - (1 : Int32)) / (24 : Int32) * (24 : Int32)) 24 ∧ (∃ s10 : kS, R_X7_turnPitch 3 (σ.1 22 ((((σ.1 20 1) + (24 : Int32)) - (1 : Int32)) - (((σ.1 20 1) + (24 : Int32)) - (1 : Int32)) / (24 : Int32) * (24 : Int32)).toNatClampNeg) (σ.1 23 ((((σ.1 20 1) + (24 : Int32)) - (1 : Int32)) - (((σ.1 20 1) + (24 : Int32)) - (1 : Int32)) / (24 : Int32) * (24 : Int32)).toNatClampNeg) (k_si (k_si σ 20 1 ((((σ.1 20 1) + (24 : Int32)) - (1 : Int32)) - (((σ.1 20 1) + (24 : Int32)) - (1 : Int32)) / (24 : Int32) * (24 : Int32))) 20 0 ((σ.1 20 0) - (1 : Int32))) s10 ∧ (τ = s10))))))) : R_X0_takeBack  σ τ := by
  refine x_run [some (.ref 20), some (.ref 3)] (by decide +kernel) rfl (Nat.le_of_ble_eq_true rfl) ?_
  refine x_aload_n (pc := 0) 0 dX0_takeBack_0 rfl rfl ?_
  refine x_aload_n (pc := 1) 0 dX0_takeBack_1 rfl rfl ?_
  refine x_getI (pc := 2) dX0_takeBack_2 fX0_25 rfl rfl ?_
  refine x_bipush (pc := 5) (24 : Int32) dX0_takeBack_5 (by decide +kernel) ?_
  refine x_iadd (pc := 7) dX0_takeBack_7 ?_
  refine x_iconst (pc := 8) (1 : Int32) dX0_takeBack_8 (by decide +kernel) ?_
  refine x_isub (pc := 9) dX0_takeBack_9 ?_
  refine x_bipush (pc := 10) (24 : Int32) dX0_takeBack_10 (by decide +kernel) ?_
  refine x_irem (pc := 12) dX0_takeBack_12 (by decide) ?_
  refine x_putI (pc := 13) dX0_takeBack_13 pX0_25 rfl rfl ?_
  refine x_aload_n (pc := 16) 0 dX0_takeBack_16 rfl rfl ?_
  refine x_dup (pc := 17) dX0_takeBack_17 rfl ?_
  refine x_getI (pc := 18) dX0_takeBack_18 fX0_21 rfl rfl ?_
  refine x_iconst (pc := 21) (1 : Int32) dX0_takeBack_21 (by decide +kernel) ?_
  refine x_isub (pc := 22) dX0_takeBack_22 ?_
  refine x_putI (pc := 23) dX0_takeBack_23 pX0_21 rfl rfl ?_
  refine x_aload_n (pc := 26) 0 dX0_takeBack_26 rfl rfl ?_
  refine x_getR (pc := 27) dX0_takeBack_27 fX0_9 rfl rfl ?_
  refine x_aload_n (pc := 30) 0 dX0_takeBack_30 rfl rfl ?_
  refine x_getI (pc := 31) dX0_takeBack_31 fX0_25 rfl rfl ?_
  obtain ⟨g1, h⟩ := h
  refine x_iaload (pc := 34) (n := 24) dX0_takeBack_34 rfl g1 ?_
  refine x_lookup (pc := 35) dX0_takeBack_35 (by decide +kernel) (by decide +kernel) (by decide) ?_
  refine k_lk_cons (fun c2 => ?_) (fun c2 => ?_)
  · replace h := h.1 c2
    refine x_aload_n (pc := 60) 1 dX0_takeBack_60 rfl rfl ?_
    refine x_aload_n (pc := 61) 0 dX0_takeBack_61 rfl rfl ?_
    refine x_getR (pc := 62) dX0_takeBack_62 fX0_15 rfl rfl ?_
    refine x_aload_n (pc := 65) 0 dX0_takeBack_65 rfl rfl ?_
    refine x_getI (pc := 66) dX0_takeBack_66 fX0_25 rfl rfl ?_
    obtain ⟨g3, h⟩ := h
    refine x_iaload (pc := 69) (n := 24) dX0_takeBack_69 rfl g3 ?_
    obtain ⟨s4, hr, h⟩ := h
    refine x_callV (pc := 70) [(.int (σ.1 22 ((((σ.1 20 1) + (24 : Int32)) - (1 : Int32)) - (((σ.1 20 1) + (24 : Int32)) - (1 : Int32)) / (24 : Int32) * (24 : Int32)).toNatClampNeg))] [] dX0_takeBack_70 ⟨⟨hX7_unpackTired.1, hX7_unpackTired.2.1, hX7_unpackTired.2.2, by decide⟩, mX0_34, vX7_unpackTired.1, vX7_unpackTired.2⟩ (ci := 7) rfl rfl rfl rfl (Nat.le_of_ble_eq_true rfl) hr ?_
    refine x_aload_n (pc := 73) 1 dX0_takeBack_73 rfl rfl ?_
    refine x_dup (pc := 74) dX0_takeBack_74 rfl ?_
    refine x_getI (pc := 75) dX0_takeBack_75 fX0_40 rfl rfl ?_
    refine x_iconst (pc := 78) (1 : Int32) dX0_takeBack_78 (by decide +kernel) ?_
    refine x_isub (pc := 79) dX0_takeBack_79 ?_
    refine x_putI (pc := 80) dX0_takeBack_80 pX0_40 rfl rfl ?_
    refine x_goto (pc := 83) 134 dX0_takeBack_83 (by decide) ?_
    exact x_return2 (pc := 134) dX0_takeBack_134 rfl h
  replace h := h.2 c2
  refine k_lk_cons (fun c2 => ?_) (fun c2 => ?_)
  · replace h := h.1 c2
    refine x_aload_n (pc := 86) 1 dX0_takeBack_86 rfl rfl ?_
    refine x_getR (pc := 87) dX0_takeBack_87 fX0_43 rfl rfl ?_
    refine x_aload_n (pc := 90) 0 dX0_takeBack_90 rfl rfl ?_
    refine x_getR (pc := 91) dX0_takeBack_91 fX0_15 rfl rfl ?_
    refine x_aload_n (pc := 94) 0 dX0_takeBack_94 rfl rfl ?_
    refine x_getI (pc := 95) dX0_takeBack_95 fX0_25 rfl rfl ?_
    obtain ⟨g5, h⟩ := h
    refine x_iaload (pc := 98) (n := 24) dX0_takeBack_98 rfl g5 ?_
    refine x_aload_n (pc := 99) 0 dX0_takeBack_99 rfl rfl ?_
    refine x_getR (pc := 100) dX0_takeBack_100 fX0_18 rfl rfl ?_
    refine x_aload_n (pc := 103) 0 dX0_takeBack_103 rfl rfl ?_
    refine x_getI (pc := 104) dX0_takeBack_104 fX0_25 rfl rfl ?_
    obtain ⟨g6, h⟩ := h
    refine x_iaload (pc := 107) (n := 24) dX0_takeBack_107 rfl g6 ?_
    obtain ⟨g7, h⟩ := h
    refine x_iastore (pc := 108) (n := 5) dX0_takeBack_108 rfl g7 ?_
    refine x_goto (pc := 109) 134 dX0_takeBack_109 (by decide) ?_
    exact x_return2 (pc := 134) dX0_takeBack_134 rfl h
  replace h := h.2 c2
  refine k_lk_nil ?_
  refine x_aload_n (pc := 112) 1 dX0_takeBack_112 rfl rfl ?_
  refine x_aload_n (pc := 113) 0 dX0_takeBack_113 rfl rfl ?_
  refine x_getR (pc := 114) dX0_takeBack_114 fX0_15 rfl rfl ?_
  refine x_aload_n (pc := 117) 0 dX0_takeBack_117 rfl rfl ?_
  refine x_getI (pc := 118) dX0_takeBack_118 fX0_25 rfl rfl ?_
  obtain ⟨g8, h⟩ := h
  refine x_iaload (pc := 121) (n := 24) dX0_takeBack_121 rfl g8 ?_
  refine x_aload_n (pc := 122) 0 dX0_takeBack_122 rfl rfl ?_
  refine x_getR (pc := 123) dX0_takeBack_123 fX0_18 rfl rfl ?_
  refine x_aload_n (pc := 126) 0 dX0_takeBack_126 rfl rfl ?_
  refine x_getI (pc := 127) dX0_takeBack_127 fX0_25 rfl rfl ?_
  obtain ⟨g9, h⟩ := h
  refine x_iaload (pc := 130) (n := 24) dX0_takeBack_130 rfl g9 ?_
  obtain ⟨s10, hr, h⟩ := h
  refine x_callV (pc := 131) [(.int (σ.1 22 ((((σ.1 20 1) + (24 : Int32)) - (1 : Int32)) - (((σ.1 20 1) + (24 : Int32)) - (1 : Int32)) / (24 : Int32) * (24 : Int32)).toNatClampNeg)), (.int (σ.1 23 ((((σ.1 20 1) + (24 : Int32)) - (1 : Int32)) - (((σ.1 20 1) + (24 : Int32)) - (1 : Int32)) / (24 : Int32) * (24 : Int32)).toNatClampNeg))] [] dX0_takeBack_131 ⟨⟨hX7_turnPitch.1, hX7_turnPitch.2.1, hX7_turnPitch.2.2, by decide⟩, mX0_46, vX7_turnPitch.1, vX7_turnPitch.2⟩ (ci := 7) rfl rfl rfl rfl (Nat.le_of_ble_eq_true rfl) hr ?_
  exact x_return2 (pc := 134) dX0_takeBack_134 rfl h
theorem dX7_rested_0 : decode cX7_rested 0 = .ok (.iconst 0, 1) := by decide +kernel
theorem dX7_rested_1 : decode cX7_rested 1 = .ok (.istore_n 1, 1) := by decide +kernel
theorem dX7_rested_2 : decode cX7_rested 2 = .ok (.iconst 0, 1) := by decide +kernel
theorem dX7_rested_3 : decode cX7_rested 3 = .ok (.istore_n 2, 1) := by decide +kernel
theorem dX7_rested_4 : decode cX7_rested 4 = .ok (.iload_n 2, 1) := by decide +kernel
theorem dX7_rested_5 : decode cX7_rested 5 = .ok (.aload_n 0, 1) := by decide +kernel
theorem dX7_rested_6 : decode cX7_rested 6 = .ok (.getfield 37, 3) := by decide +kernel
theorem dX7_rested_9 : decode cX7_rested 9 = .ok (.if_icmp .ge 26, 3) := by decide +kernel
theorem dX7_rested_12 : decode cX7_rested 12 = .ok (.aload_n 0, 1) := by decide +kernel
theorem dX7_rested_13 : decode cX7_rested 13 = .ok (.getfield 30, 3) := by decide +kernel
theorem dX7_rested_16 : decode cX7_rested 16 = .ok (.iload_n 2, 1) := by decide +kernel
theorem dX7_rested_17 : decode cX7_rested 17 = .ok (.iaload, 1) := by decide +kernel
theorem dX7_rested_18 : decode cX7_rested 18 = .ok (.bipush 8, 2) := by decide +kernel
theorem dX7_rested_20 : decode cX7_rested 20 = .ok (.if_icmp .ge 9, 3) := by decide +kernel
theorem dX7_rested_23 : decode cX7_rested 23 = .ok (.iload_n 1, 1) := by decide +kernel
theorem dX7_rested_24 : decode cX7_rested 24 = .ok (.iconst 1, 1) := by decide +kernel
theorem dX7_rested_25 : decode cX7_rested 25 = .ok (.iload_n 2, 1) := by decide +kernel
theorem dX7_rested_26 : decode cX7_rested 26 = .ok (.ishl, 1) := by decide +kernel
theorem dX7_rested_27 : decode cX7_rested 27 = .ok (.ior, 1) := by decide +kernel
theorem dX7_rested_28 : decode cX7_rested 28 = .ok (.istore_n 1, 1) := by decide +kernel
theorem dX7_rested_29 : decode cX7_rested 29 = .ok (.iinc 2 1, 3) := by decide +kernel
theorem dX7_rested_32 : decode cX7_rested 32 = .ok (.goto (-28), 3) := by decide +kernel
theorem dX7_rested_35 : decode cX7_rested 35 = .ok (.iload_n 1, 1) := by decide +kernel
theorem dX7_rested_36 : decode cX7_rested 36 = .ok (.ireturn, 1) := by decide +kernel
def R_X7_rested (v : Nat) (σ : kS) (x : Int32) (τ : kS) : Prop := Run SX jX7_rested [(.ref v)] σ (some (.int x)) τ
def E_X7_rested_4 (v : Nat) (l1 : Int32) (l2 : Int32) (σ : kS) (x : Int32) (τ : kS) : Prop := Ex SX jX7_rested 4 [some (.ref v), some (.int l1), some (.int l2)] [] σ (some (.int x)) τ
set_option maxRecDepth 20000 in
theorem t_X7_rested {v : Nat} {σ : kS} {x : Int32} {τ : kS} (hv : k_vly v = true) (h : E_X7_rested_4 v (0 : Int32) (0 : Int32) σ x τ) : R_X7_rested v σ x τ := by
  refine x_run [some (.ref v), none, none] (by decide +kernel) rfl (Nat.le_of_ble_eq_true rfl) ?_
  refine x_iconst (pc := 0) (0 : Int32) dX7_rested_0 (by decide +kernel) ?_
  refine x_istore_n (pc := 1) 1 dX7_rested_1 rfl (by decide) rfl ?_
  refine x_iconst (pc := 2) (0 : Int32) dX7_rested_2 (by decide +kernel) ?_
  refine x_istore_n (pc := 3) 2 dX7_rested_3 rfl (by decide) rfl ?_
  exact h
set_option maxRecDepth 20000 in
theorem t_X7_rested_4 {v : Nat} {l1 : Int32} {l2 : Int32} {σ : kS} {x : Int32} {τ : kS} (hv : k_vly v = true) (h : ((σ.1 v 2) ≤ l2 → x = l1 ∧ τ = σ) ∧ (¬ (σ.1 v 2) ≤ l2 → vp_in l2 5 ∧ (((8 : Int32) ≤ (σ.1 (v + 7) l2.toNatClampNeg) → E_X7_rested_4 v l1 (l2 + (1 : Int32)) σ x τ) ∧ (¬ (8 : Int32) ≤ (σ.1 (v + 7) l2.toNatClampNeg) → E_X7_rested_4 v (l1 ||| ((1 : Int32) <<< (l2 &&& 31))) (l2 + (1 : Int32)) σ x τ)))) : E_X7_rested_4 v l1 l2 σ x τ := by
  unfold E_X7_rested_4
  refine x_iload_n (pc := 4) 2 dX7_rested_4 rfl rfl ?_
  refine x_aload_n (pc := 5) 0 dX7_rested_5 rfl rfl ?_
  refine x_getI (pc := 6) dX7_rested_6 fX7_37 (vl_is hv) (vl_i2 hv) ?_
  refine x_icmp_ge (pc := 9) 35 dX7_rested_9 (by decide) (fun c1 => ?_) (fun c1 => ?_)
  · replace h := h.1 c1
    refine x_iload_n (pc := 35) 1 dX7_rested_35 rfl rfl ?_
    exact x_ireturn2 (pc := 36) dX7_rested_36 rfl h.1 h.2
  · replace h := h.2 c1
    refine x_aload_n (pc := 12) 0 dX7_rested_12 rfl rfl ?_
    refine x_getR (pc := 13) dX7_rested_13 fX7_30 (vl_is hv) (vl_r10 hv) ?_
    refine x_iload_n (pc := 16) 2 dX7_rested_16 rfl rfl ?_
    obtain ⟨g2, h⟩ := h
    refine x_iaload (pc := 17) (n := 5) dX7_rested_17 (vl_a10 hv) g2 ?_
    refine x_bipush (pc := 18) (8 : Int32) dX7_rested_18 (by decide +kernel) ?_
    refine x_icmp_ge (pc := 20) 29 dX7_rested_20 (by decide) (fun c3 => ?_) (fun c3 => ?_)
    · replace h := h.1 c3
      refine x_iinc (pc := 29) (1 : Int32) dX7_rested_29 (by decide) rfl rfl (by decide +kernel) ?_
      refine x_goto (pc := 32) 4 dX7_rested_32 (by decide) ?_
      exact h
    · replace h := h.2 c3
      refine x_iload_n (pc := 23) 1 dX7_rested_23 rfl rfl ?_
      refine x_iconst (pc := 24) (1 : Int32) dX7_rested_24 (by decide +kernel) ?_
      refine x_iload_n (pc := 25) 2 dX7_rested_25 rfl rfl ?_
      refine x_ishl (pc := 26) dX7_rested_26 ?_
      refine x_ior (pc := 27) dX7_rested_27 ?_
      refine x_istore_n (pc := 28) 1 dX7_rested_28 rfl (by decide) rfl ?_
      refine x_iinc (pc := 29) (1 : Int32) dX7_rested_29 (by decide) rfl rfl (by decide +kernel) ?_
      refine x_goto (pc := 32) 4 dX7_rested_32 (by decide) ?_
      exact h
theorem dX2_isThere_0 : decode cX2_isThere 0 = .ok (.aload_n 0, 1) := by decide +kernel
theorem dX2_isThere_1 : decode cX2_isThere 1 = .ok (.getfield 15, 3) := by decide +kernel
theorem dX2_isThere_4 : decode cX2_isThere 4 = .ok (.iload_n 1, 1) := by decide +kernel
theorem dX2_isThere_5 : decode cX2_isThere 5 = .ok (.iaload, 1) := by decide +kernel
theorem dX2_isThere_6 : decode cX2_isThere 6 = .ok (.iconst (-1), 1) := by decide +kernel
theorem dX2_isThere_7 : decode cX2_isThere 7 = .ok (.if_icmp .eq 7, 3) := by decide +kernel
theorem dX2_isThere_10 : decode cX2_isThere 10 = .ok (.iconst 1, 1) := by decide +kernel
theorem dX2_isThere_11 : decode cX2_isThere 11 = .ok (.goto 4, 3) := by decide +kernel
theorem dX2_isThere_14 : decode cX2_isThere 14 = .ok (.iconst 0, 1) := by decide +kernel
theorem dX2_isThere_15 : decode cX2_isThere 15 = .ok (.ireturn, 1) := by decide +kernel
def R_X2_isThere (a1 : Int32) (σ : kS) (x : Int32) (τ : kS) : Prop := Run SX jX2_isThere [(.ref 24), (.int a1)] σ (some (.int x)) τ
set_option maxRecDepth 20000 in
theorem t_X2_isThere {a1 : Int32} {σ : kS} {x : Int32} {τ : kS}  (h : vp_in a1 4096 ∧ (((σ.1 26 a1.toNatClampNeg) = (-1 : Int32) → x = (0 : Int32) ∧ τ = σ) ∧ (¬ (σ.1 26 a1.toNatClampNeg) = (-1 : Int32) → x = (1 : Int32) ∧ τ = σ))) : R_X2_isThere a1 σ x τ := by
  refine x_run [some (.ref 24), some (.int a1)] (by decide +kernel) rfl (Nat.le_of_ble_eq_true rfl) ?_
  refine x_aload_n (pc := 0) 0 dX2_isThere_0 rfl rfl ?_
  refine x_getR (pc := 1) dX2_isThere_1 fX2_15 rfl rfl ?_
  refine x_iload_n (pc := 4) 1 dX2_isThere_4 rfl rfl ?_
  obtain ⟨g1, h⟩ := h
  refine x_iaload (pc := 5) (n := 4096) dX2_isThere_5 rfl g1 ?_
  refine x_iconst (pc := 6) (-1 : Int32) dX2_isThere_6 (by decide +kernel) ?_
  refine x_icmp_eq (pc := 7) 14 dX2_isThere_7 (by decide) (fun c2 => ?_) (fun c2 => ?_)
  · replace h := h.1 c2
    refine x_iconst (pc := 14) (0 : Int32) dX2_isThere_14 (by decide +kernel) ?_
    exact x_zreturn2 (pc := 15) dX2_isThere_15 rfl rfl h.1 h.2
  · replace h := h.2 c2
    refine x_iconst (pc := 10) (1 : Int32) dX2_isThere_10 (by decide +kernel) ?_
    refine x_goto (pc := 11) 15 dX2_isThere_11 (by decide) ?_
    exact x_zreturn2 (pc := 15) dX2_isThere_15 rfl rfl h.1 h.2
theorem dX2_missingOf_0 : decode cX2_missingOf 0 = .ok (.aload_n 0, 1) := by decide +kernel
theorem dX2_missingOf_1 : decode cX2_missingOf 1 = .ok (.iload_n 1, 1) := by decide +kernel
theorem dX2_missingOf_2 : decode cX2_missingOf 2 = .ok (.invokevirtual 47, 3) := by decide +kernel
theorem dX2_missingOf_5 : decode cX2_missingOf 5 = .ok (.ifCond .eq 21, 3) := by decide +kernel
theorem dX2_missingOf_8 : decode cX2_missingOf 8 = .ok (.aload_n 0, 1) := by decide +kernel
theorem dX2_missingOf_9 : decode cX2_missingOf 9 = .ok (.getfield 9, 3) := by decide +kernel
theorem dX2_missingOf_12 : decode cX2_missingOf 12 = .ok (.aload_n 0, 1) := by decide +kernel
theorem dX2_missingOf_13 : decode cX2_missingOf 13 = .ok (.getfield 15, 3) := by decide +kernel
theorem dX2_missingOf_16 : decode cX2_missingOf 16 = .ok (.iload_n 1, 1) := by decide +kernel
theorem dX2_missingOf_17 : decode cX2_missingOf 17 = .ok (.iaload, 1) := by decide +kernel
theorem dX2_missingOf_18 : decode cX2_missingOf 18 = .ok (.iaload, 1) := by decide +kernel
theorem dX2_missingOf_19 : decode cX2_missingOf 19 = .ok (.iload_n 1, 1) := by decide +kernel
theorem dX2_missingOf_20 : decode cX2_missingOf 20 = .ok (.iconst (-1), 1) := by decide +kernel
theorem dX2_missingOf_21 : decode cX2_missingOf 21 = .ok (.ixor, 1) := by decide +kernel
theorem dX2_missingOf_22 : decode cX2_missingOf 22 = .ok (.iand, 1) := by decide +kernel
theorem dX2_missingOf_23 : decode cX2_missingOf 23 = .ok (.goto 4, 3) := by decide +kernel
theorem dX2_missingOf_26 : decode cX2_missingOf 26 = .ok (.iconst 0, 1) := by decide +kernel
theorem dX2_missingOf_27 : decode cX2_missingOf 27 = .ok (.ireturn, 1) := by decide +kernel
def R_X2_missingOf (a1 : Int32) (σ : kS) (x : Int32) (τ : kS) : Prop := Run SX jX2_missingOf [(.ref 24), (.int a1)] σ (some (.int x)) τ
set_option maxRecDepth 20000 in
theorem t_X2_missingOf {a1 : Int32} {σ : kS} {x : Int32} {τ : kS}  (h : ∃ (x2 : Int32) (s1 : kS), R_X2_isThere a1 σ x2 s1 ∧ ((x2 = 0 → x = (0 : Int32) ∧ τ = s1) ∧ (¬ x2 = 0 → vp_in a1 4096 ∧ (vp_in (s1.1 26 a1.toNatClampNeg) 48 ∧ (x = ((s1.1 25 (s1.1 26 a1.toNatClampNeg).toNatClampNeg) &&& (a1 ^^^ (-1 : Int32))) ∧ τ = s1))))) : R_X2_missingOf a1 σ x τ := by
  refine x_run [some (.ref 24), some (.int a1)] (by decide +kernel) rfl (Nat.le_of_ble_eq_true rfl) ?_
  refine x_aload_n (pc := 0) 0 dX2_missingOf_0 rfl rfl ?_
  refine x_iload_n (pc := 1) 1 dX2_missingOf_1 rfl rfl ?_
  obtain ⟨x2, s1, hr, h⟩ := h
  refine x_callV (pc := 2) [(.int a1)] [] dX2_missingOf_2 ⟨⟨hX2_isThere.1, hX2_isThere.2.1, hX2_isThere.2.2, by decide⟩, mX2_47, vX2_isThere.1, vX2_isThere.2⟩ (ci := 2) rfl rfl rfl rfl (Nat.le_of_ble_eq_true rfl) hr ?_
  refine x_if_eq (pc := 5) 26 dX2_missingOf_5 (by decide) (fun c3 => ?_) (fun c3 => ?_)
  · replace h := h.1 c3
    refine x_iconst (pc := 26) (0 : Int32) dX2_missingOf_26 (by decide +kernel) ?_
    exact x_ireturn2 (pc := 27) dX2_missingOf_27 rfl h.1 h.2
  · replace h := h.2 c3
    refine x_aload_n (pc := 8) 0 dX2_missingOf_8 rfl rfl ?_
    refine x_getR (pc := 9) dX2_missingOf_9 fX2_9 rfl rfl ?_
    refine x_aload_n (pc := 12) 0 dX2_missingOf_12 rfl rfl ?_
    refine x_getR (pc := 13) dX2_missingOf_13 fX2_15 rfl rfl ?_
    refine x_iload_n (pc := 16) 1 dX2_missingOf_16 rfl rfl ?_
    obtain ⟨g4, h⟩ := h
    refine x_iaload (pc := 17) (n := 4096) dX2_missingOf_17 rfl g4 ?_
    obtain ⟨g5, h⟩ := h
    refine x_iaload (pc := 18) (n := 48) dX2_missingOf_18 rfl g5 ?_
    refine x_iload_n (pc := 19) 1 dX2_missingOf_19 rfl rfl ?_
    refine x_iconst (pc := 20) (-1 : Int32) dX2_missingOf_20 (by decide +kernel) ?_
    refine x_ixor (pc := 21) dX2_missingOf_21 ?_
    refine x_iand (pc := 22) dX2_missingOf_22 ?_
    refine x_goto (pc := 23) 27 dX2_missingOf_23 (by decide) ?_
    exact x_ireturn2 (pc := 27) dX2_missingOf_27 rfl h.1 h.2
theorem dX2_rootOf_0 : decode cX2_rootOf 0 = .ok (.aload_n 0, 1) := by decide +kernel
theorem dX2_rootOf_1 : decode cX2_rootOf 1 = .ok (.iload_n 1, 1) := by decide +kernel
theorem dX2_rootOf_2 : decode cX2_rootOf 2 = .ok (.invokevirtual 47, 3) := by decide +kernel
theorem dX2_rootOf_5 : decode cX2_rootOf 5 = .ok (.ifCond .eq 15, 3) := by decide +kernel
theorem dX2_rootOf_8 : decode cX2_rootOf 8 = .ok (.aload_n 0, 1) := by decide +kernel
theorem dX2_rootOf_9 : decode cX2_rootOf 9 = .ok (.getfield 15, 3) := by decide +kernel
theorem dX2_rootOf_12 : decode cX2_rootOf 12 = .ok (.iload_n 1, 1) := by decide +kernel
theorem dX2_rootOf_13 : decode cX2_rootOf 13 = .ok (.iaload, 1) := by decide +kernel
theorem dX2_rootOf_14 : decode cX2_rootOf 14 = .ok (.bipush 12, 2) := by decide +kernel
theorem dX2_rootOf_16 : decode cX2_rootOf 16 = .ok (.irem, 1) := by decide +kernel
theorem dX2_rootOf_17 : decode cX2_rootOf 17 = .ok (.goto 5, 3) := by decide +kernel
theorem dX2_rootOf_20 : decode cX2_rootOf 20 = .ok (.bipush (-4), 2) := by decide +kernel
theorem dX2_rootOf_22 : decode cX2_rootOf 22 = .ok (.ireturn, 1) := by decide +kernel
def R_X2_rootOf (a1 : Int32) (σ : kS) (x : Int32) (τ : kS) : Prop := Run SX jX2_rootOf [(.ref 24), (.int a1)] σ (some (.int x)) τ
set_option maxRecDepth 20000 in
theorem t_X2_rootOf {a1 : Int32} {σ : kS} {x : Int32} {τ : kS}  (h : ∃ (x2 : Int32) (s1 : kS), R_X2_isThere a1 σ x2 s1 ∧ ((x2 = 0 → x = (-4 : Int32) ∧ τ = s1) ∧ (¬ x2 = 0 → vp_in a1 4096 ∧ (x = ((s1.1 26 a1.toNatClampNeg) - (s1.1 26 a1.toNatClampNeg) / (12 : Int32) * (12 : Int32)) ∧ τ = s1)))) : R_X2_rootOf a1 σ x τ := by
  refine x_run [some (.ref 24), some (.int a1)] (by decide +kernel) rfl (Nat.le_of_ble_eq_true rfl) ?_
  refine x_aload_n (pc := 0) 0 dX2_rootOf_0 rfl rfl ?_
  refine x_iload_n (pc := 1) 1 dX2_rootOf_1 rfl rfl ?_
  obtain ⟨x2, s1, hr, h⟩ := h
  refine x_callV (pc := 2) [(.int a1)] [] dX2_rootOf_2 ⟨⟨hX2_isThere.1, hX2_isThere.2.1, hX2_isThere.2.2, by decide⟩, mX2_47, vX2_isThere.1, vX2_isThere.2⟩ (ci := 2) rfl rfl rfl rfl (Nat.le_of_ble_eq_true rfl) hr ?_
  refine x_if_eq (pc := 5) 20 dX2_rootOf_5 (by decide) (fun c3 => ?_) (fun c3 => ?_)
  · replace h := h.1 c3
    refine x_bipush (pc := 20) (-4 : Int32) dX2_rootOf_20 (by decide +kernel) ?_
    exact x_ireturn2 (pc := 22) dX2_rootOf_22 rfl h.1 h.2
  · replace h := h.2 c3
    refine x_aload_n (pc := 8) 0 dX2_rootOf_8 rfl rfl ?_
    refine x_getR (pc := 9) dX2_rootOf_9 fX2_15 rfl rfl ?_
    refine x_iload_n (pc := 12) 1 dX2_rootOf_12 rfl rfl ?_
    obtain ⟨g4, h⟩ := h
    refine x_iaload (pc := 13) (n := 4096) dX2_rootOf_13 rfl g4 ?_
    refine x_bipush (pc := 14) (12 : Int32) dX2_rootOf_14 (by decide +kernel) ?_
    refine x_irem (pc := 16) dX2_rootOf_16 (by decide) ?_
    refine x_goto (pc := 17) 22 dX2_rootOf_17 (by decide) ?_
    exact x_ireturn2 (pc := 22) dX2_rootOf_22 rfl h.1 h.2
theorem dX7_range_0 : decode cX7_range 0 = .ok (.iconst 2, 1) := by decide +kernel
theorem dX7_range_1 : decode cX7_range 1 = .ok (.aload_n 0, 1) := by decide +kernel
theorem dX7_range_2 : decode cX7_range 2 = .ok (.getfield 24, 3) := by decide +kernel
theorem dX7_range_5 : decode cX7_range 5 = .ok (.iload_n 1, 1) := by decide +kernel
theorem dX7_range_6 : decode cX7_range 6 = .ok (.iaload, 1) := by decide +kernel
theorem dX7_range_7 : decode cX7_range 7 = .ok (.ishl, 1) := by decide +kernel
theorem dX7_range_8 : decode cX7_range 8 = .ok (.iconst 1, 1) := by decide +kernel
theorem dX7_range_9 : decode cX7_range 9 = .ok (.aload_n 0, 1) := by decide +kernel
theorem dX7_range_10 : decode cX7_range 10 = .ok (.getfield 21, 3) := by decide +kernel
theorem dX7_range_13 : decode cX7_range 13 = .ok (.iload_n 1, 1) := by decide +kernel
theorem dX7_range_14 : decode cX7_range 14 = .ok (.iaload, 1) := by decide +kernel
theorem dX7_range_15 : decode cX7_range 15 = .ok (.ishl, 1) := by decide +kernel
theorem dX7_range_16 : decode cX7_range 16 = .ok (.isub, 1) := by decide +kernel
theorem dX7_range_17 : decode cX7_range 17 = .ok (.ireturn, 1) := by decide +kernel
def R_X7_range (v : Nat) (a1 : Int32) (σ : kS) (x : Int32) (τ : kS) : Prop := Run SX jX7_range [(.ref v), (.int a1)] σ (some (.int x)) τ
set_option maxRecDepth 20000 in
theorem t_X7_range {v : Nat} {a1 : Int32} {σ : kS} {x : Int32} {τ : kS} (hv : k_vly v = true) (h : vp_in a1 5 ∧ (vp_in a1 5 ∧ (x = (((2 : Int32) <<< ((σ.1 (v + 5) a1.toNatClampNeg) &&& 31)) - ((1 : Int32) <<< ((σ.1 (v + 4) a1.toNatClampNeg) &&& 31))) ∧ τ = σ))) : R_X7_range v a1 σ x τ := by
  refine x_run [some (.ref v), some (.int a1)] (by decide +kernel) rfl (Nat.le_of_ble_eq_true rfl) ?_
  refine x_iconst (pc := 0) (2 : Int32) dX7_range_0 (by decide +kernel) ?_
  refine x_aload_n (pc := 1) 0 dX7_range_1 rfl rfl ?_
  refine x_getR (pc := 2) dX7_range_2 fX7_24 (vl_is hv) (vl_r8 hv) ?_
  refine x_iload_n (pc := 5) 1 dX7_range_5 rfl rfl ?_
  obtain ⟨g1, h⟩ := h
  refine x_iaload (pc := 6) (n := 5) dX7_range_6 (vl_a8 hv) g1 ?_
  refine x_ishl (pc := 7) dX7_range_7 ?_
  refine x_iconst (pc := 8) (1 : Int32) dX7_range_8 (by decide +kernel) ?_
  refine x_aload_n (pc := 9) 0 dX7_range_9 rfl rfl ?_
  refine x_getR (pc := 10) dX7_range_10 fX7_21 (vl_is hv) (vl_r7 hv) ?_
  refine x_iload_n (pc := 13) 1 dX7_range_13 rfl rfl ?_
  obtain ⟨g2, h⟩ := h
  refine x_iaload (pc := 14) (n := 5) dX7_range_14 (vl_a7 hv) g2 ?_
  refine x_ishl (pc := 15) dX7_range_15 ?_
  refine x_isub (pc := 16) dX7_range_16 ?_
  exact x_ireturn2 (pc := 17) dX7_range_17 rfl h.1 h.2
theorem dX1_greatest_0 : decode cX1_greatest 0 = .ok (.bipush 11, 2) := by decide +kernel
theorem dX1_greatest_2 : decode cX1_greatest 2 = .ok (.istore_n 1, 1) := by decide +kernel
theorem dX1_greatest_3 : decode cX1_greatest 3 = .ok (.iload_n 1, 1) := by decide +kernel
theorem dX1_greatest_4 : decode cX1_greatest 4 = .ok (.ifCond .lt 19, 3) := by decide +kernel
theorem dX1_greatest_7 : decode cX1_greatest 7 = .ok (.iload_n 0, 1) := by decide +kernel
theorem dX1_greatest_8 : decode cX1_greatest 8 = .ok (.iload_n 1, 1) := by decide +kernel
theorem dX1_greatest_9 : decode cX1_greatest 9 = .ok (.invokestatic 39, 3) := by decide +kernel
theorem dX1_greatest_12 : decode cX1_greatest 12 = .ok (.ifCond .eq 5, 3) := by decide +kernel
theorem dX1_greatest_15 : decode cX1_greatest 15 = .ok (.iload_n 1, 1) := by decide +kernel
theorem dX1_greatest_16 : decode cX1_greatest 16 = .ok (.ireturn, 1) := by decide +kernel
theorem dX1_greatest_17 : decode cX1_greatest 17 = .ok (.iinc 1 (-1), 3) := by decide +kernel
theorem dX1_greatest_20 : decode cX1_greatest 20 = .ok (.goto (-17), 3) := by decide +kernel
theorem dX1_greatest_23 : decode cX1_greatest 23 = .ok (.bipush 12, 2) := by decide +kernel
theorem dX1_greatest_25 : decode cX1_greatest 25 = .ok (.ireturn, 1) := by decide +kernel
def R_X1_greatest (a0 : Int32) (σ : kS) (x : Int32) (τ : kS) : Prop := Run SX jX1_greatest [(.int a0)] σ (some (.int x)) τ
def E_X1_greatest_3 (l0 : Int32) (l1 : Int32) (σ : kS) (x : Int32) (τ : kS) : Prop := Ex SX jX1_greatest 3 [some (.int l0), some (.int l1)] [] σ (some (.int x)) τ
set_option maxRecDepth 20000 in
theorem t_X1_greatest {a0 : Int32} {σ : kS} {x : Int32} {τ : kS}  (h : E_X1_greatest_3 a0 (11 : Int32) σ x τ) : R_X1_greatest a0 σ x τ := by
  refine x_run [some (.int a0), none] (by decide +kernel) rfl (Nat.le_of_ble_eq_true rfl) ?_
  refine x_bipush (pc := 0) (11 : Int32) dX1_greatest_0 (by decide +kernel) ?_
  refine x_istore_n (pc := 2) 1 dX1_greatest_2 rfl (by decide) rfl ?_
  exact h
set_option maxRecDepth 20000 in
theorem t_X1_greatest_3 {l0 : Int32} {l1 : Int32} {σ : kS} {x : Int32} {τ : kS}  (h : (l1 < 0 → x = (12 : Int32) ∧ τ = σ) ∧ (¬ l1 < 0 → (¬ (hs l0 l1) → E_X1_greatest_3 l0 (l1 + (-1 : Int32)) σ x τ) ∧ ((hs l0 l1) → x = l1 ∧ τ = σ))) : E_X1_greatest_3 l0 l1 σ x τ := by
  unfold E_X1_greatest_3
  refine x_iload_n (pc := 3) 1 dX1_greatest_3 rfl rfl ?_
  refine x_if_lt (pc := 4) 23 dX1_greatest_4 (by decide) (fun c1 => ?_) (fun c1 => ?_)
  · replace h := h.1 c1
    refine x_bipush (pc := 23) (12 : Int32) dX1_greatest_23 (by decide +kernel) ?_
    exact x_ireturn2 (pc := 25) dX1_greatest_25 rfl h.1 h.2
  · replace h := h.2 c1
    refine x_iload_n (pc := 7) 0 dX1_greatest_7 rfl rfl ?_
    refine x_iload_n (pc := 8) 1 dX1_greatest_8 rfl rfl ?_
    refine x_callN (pc := 9) [(.int l0), (.int l1)] [] dX1_greatest_9 ⟨⟨hX8_has.1, hX8_has.2.1, hX8_has.2.2, by decide⟩, ⟨_, List.mem_of_getElem? (i := 1) rfl⟩, sX8_has⟩ rfl rfl (Nat.le_of_ble_eq_true rfl) (i_X8_has) ?_
    refine x_bif_eq (pc := 12) 17 dX1_greatest_12 (by decide) (fun c2 => ?_) (fun c2 => ?_)
    · replace h := h.1 c2
      refine x_iinc (pc := 17) (-1 : Int32) dX1_greatest_17 (by decide) rfl rfl (by decide +kernel) ?_
      refine x_goto (pc := 20) 3 dX1_greatest_20 (by decide) ?_
      exact h
    · replace h := h.2 c2
      refine x_iload_n (pc := 15) 1 dX1_greatest_15 rfl rfl ?_
      exact x_ireturn2 (pc := 16) dX1_greatest_16 rfl h.1 h.2
theorem dX1_least_0 : decode cX1_least 0 = .ok (.iconst 0, 1) := by decide +kernel
theorem dX1_least_1 : decode cX1_least 1 = .ok (.istore_n 1, 1) := by decide +kernel
theorem dX1_least_2 : decode cX1_least 2 = .ok (.iload_n 1, 1) := by decide +kernel
theorem dX1_least_3 : decode cX1_least 3 = .ok (.bipush 12, 2) := by decide +kernel
theorem dX1_least_5 : decode cX1_least 5 = .ok (.if_icmp .ge 19, 3) := by decide +kernel
theorem dX1_least_8 : decode cX1_least 8 = .ok (.iload_n 0, 1) := by decide +kernel
theorem dX1_least_9 : decode cX1_least 9 = .ok (.iload_n 1, 1) := by decide +kernel
theorem dX1_least_10 : decode cX1_least 10 = .ok (.invokestatic 39, 3) := by decide +kernel
theorem dX1_least_13 : decode cX1_least 13 = .ok (.ifCond .eq 5, 3) := by decide +kernel
theorem dX1_least_16 : decode cX1_least 16 = .ok (.iload_n 1, 1) := by decide +kernel
theorem dX1_least_17 : decode cX1_least 17 = .ok (.ireturn, 1) := by decide +kernel
theorem dX1_least_18 : decode cX1_least 18 = .ok (.iinc 1 1, 3) := by decide +kernel
theorem dX1_least_21 : decode cX1_least 21 = .ok (.goto (-19), 3) := by decide +kernel
theorem dX1_least_24 : decode cX1_least 24 = .ok (.bipush 12, 2) := by decide +kernel
theorem dX1_least_26 : decode cX1_least 26 = .ok (.ireturn, 1) := by decide +kernel
def R_X1_least (a0 : Int32) (σ : kS) (x : Int32) (τ : kS) : Prop := Run SX jX1_least [(.int a0)] σ (some (.int x)) τ
def E_X1_least_2 (l0 : Int32) (l1 : Int32) (σ : kS) (x : Int32) (τ : kS) : Prop := Ex SX jX1_least 2 [some (.int l0), some (.int l1)] [] σ (some (.int x)) τ
set_option maxRecDepth 20000 in
theorem t_X1_least {a0 : Int32} {σ : kS} {x : Int32} {τ : kS}  (h : E_X1_least_2 a0 (0 : Int32) σ x τ) : R_X1_least a0 σ x τ := by
  refine x_run [some (.int a0), none] (by decide +kernel) rfl (Nat.le_of_ble_eq_true rfl) ?_
  refine x_iconst (pc := 0) (0 : Int32) dX1_least_0 (by decide +kernel) ?_
  refine x_istore_n (pc := 1) 1 dX1_least_1 rfl (by decide) rfl ?_
  exact h
set_option maxRecDepth 20000 in
theorem t_X1_least_2 {l0 : Int32} {l1 : Int32} {σ : kS} {x : Int32} {τ : kS}  (h : ((12 : Int32) ≤ l1 → x = (12 : Int32) ∧ τ = σ) ∧ (¬ (12 : Int32) ≤ l1 → (¬ (hs l0 l1) → E_X1_least_2 l0 (l1 + (1 : Int32)) σ x τ) ∧ ((hs l0 l1) → x = l1 ∧ τ = σ))) : E_X1_least_2 l0 l1 σ x τ := by
  unfold E_X1_least_2
  refine x_iload_n (pc := 2) 1 dX1_least_2 rfl rfl ?_
  refine x_bipush (pc := 3) (12 : Int32) dX1_least_3 (by decide +kernel) ?_
  refine x_icmp_ge (pc := 5) 24 dX1_least_5 (by decide) (fun c1 => ?_) (fun c1 => ?_)
  · replace h := h.1 c1
    refine x_bipush (pc := 24) (12 : Int32) dX1_least_24 (by decide +kernel) ?_
    exact x_ireturn2 (pc := 26) dX1_least_26 rfl h.1 h.2
  · replace h := h.2 c1
    refine x_iload_n (pc := 8) 0 dX1_least_8 rfl rfl ?_
    refine x_iload_n (pc := 9) 1 dX1_least_9 rfl rfl ?_
    refine x_callN (pc := 10) [(.int l0), (.int l1)] [] dX1_least_10 ⟨⟨hX8_has.1, hX8_has.2.1, hX8_has.2.2, by decide⟩, ⟨_, List.mem_of_getElem? (i := 1) rfl⟩, sX8_has⟩ rfl rfl (Nat.le_of_ble_eq_true rfl) (i_X8_has) ?_
    refine x_bif_eq (pc := 13) 18 dX1_least_13 (by decide) (fun c2 => ?_) (fun c2 => ?_)
    · replace h := h.1 c2
      refine x_iinc (pc := 18) (1 : Int32) dX1_least_18 (by decide) rfl rfl (by decide +kernel) ?_
      refine x_goto (pc := 21) 2 dX1_least_21 (by decide) ?_
      exact h
    · replace h := h.2 c2
      refine x_iload_n (pc := 16) 1 dX1_least_16 rfl rfl ?_
      exact x_ireturn2 (pc := 17) dX1_least_17 rfl h.1 h.2
theorem dX1_firstOf_0 : decode cX1_firstOf 0 = .ok (.iload_n 0, 1) := by decide +kernel
theorem dX1_firstOf_1 : decode cX1_firstOf 1 = .ok (.iload_n 1, 1) := by decide +kernel
theorem dX1_firstOf_2 : decode cX1_firstOf 2 = .ok (.invokestatic 39, 3) := by decide +kernel
theorem dX1_firstOf_5 : decode cX1_firstOf 5 = .ok (.ifCond .eq 5, 3) := by decide +kernel
theorem dX1_firstOf_8 : decode cX1_firstOf 8 = .ok (.iload_n 1, 1) := by decide +kernel
theorem dX1_firstOf_9 : decode cX1_firstOf 9 = .ok (.ireturn, 1) := by decide +kernel
theorem dX1_firstOf_10 : decode cX1_firstOf 10 = .ok (.iload_n 0, 1) := by decide +kernel
theorem dX1_firstOf_11 : decode cX1_firstOf 11 = .ok (.iload_n 2, 1) := by decide +kernel
theorem dX1_firstOf_12 : decode cX1_firstOf 12 = .ok (.invokestatic 39, 3) := by decide +kernel
theorem dX1_firstOf_15 : decode cX1_firstOf 15 = .ok (.ifCond .eq 7, 3) := by decide +kernel
theorem dX1_firstOf_18 : decode cX1_firstOf 18 = .ok (.iload_n 2, 1) := by decide +kernel
theorem dX1_firstOf_19 : decode cX1_firstOf 19 = .ok (.goto 4, 3) := by decide +kernel
theorem dX1_firstOf_22 : decode cX1_firstOf 22 = .ok (.iload_n 3, 1) := by decide +kernel
theorem dX1_firstOf_23 : decode cX1_firstOf 23 = .ok (.ireturn, 1) := by decide +kernel
def R_X1_firstOf (a0 : Int32) (a1 : Int32) (a2 : Int32) (a3 : Int32) (σ : kS) (x : Int32) (τ : kS) : Prop := Run SX jX1_firstOf [(.int a0), (.int a1), (.int a2), (.int a3)] σ (some (.int x)) τ
set_option maxRecDepth 20000 in
theorem t_X1_firstOf {a0 : Int32} {a1 : Int32} {a2 : Int32} {a3 : Int32} {σ : kS} {x : Int32} {τ : kS}  (h : (¬ (hs a0 a1) → (¬ (hs a0 a2) → x = a3 ∧ τ = σ) ∧ ((hs a0 a2) → x = a2 ∧ τ = σ)) ∧ ((hs a0 a1) → x = a1 ∧ τ = σ)) : R_X1_firstOf a0 a1 a2 a3 σ x τ := by
  refine x_run [some (.int a0), some (.int a1), some (.int a2), some (.int a3)] (by decide +kernel) rfl (Nat.le_of_ble_eq_true rfl) ?_
  refine x_iload_n (pc := 0) 0 dX1_firstOf_0 rfl rfl ?_
  refine x_iload_n (pc := 1) 1 dX1_firstOf_1 rfl rfl ?_
  refine x_callN (pc := 2) [(.int a0), (.int a1)] [] dX1_firstOf_2 ⟨⟨hX8_has.1, hX8_has.2.1, hX8_has.2.2, by decide⟩, ⟨_, List.mem_of_getElem? (i := 1) rfl⟩, sX8_has⟩ rfl rfl (Nat.le_of_ble_eq_true rfl) (i_X8_has) ?_
  refine x_bif_eq (pc := 5) 10 dX1_firstOf_5 (by decide) (fun c1 => ?_) (fun c1 => ?_)
  · replace h := h.1 c1
    refine x_iload_n (pc := 10) 0 dX1_firstOf_10 rfl rfl ?_
    refine x_iload_n (pc := 11) 2 dX1_firstOf_11 rfl rfl ?_
    refine x_callN (pc := 12) [(.int a0), (.int a2)] [] dX1_firstOf_12 ⟨⟨hX8_has.1, hX8_has.2.1, hX8_has.2.2, by decide⟩, ⟨_, List.mem_of_getElem? (i := 1) rfl⟩, sX8_has⟩ rfl rfl (Nat.le_of_ble_eq_true rfl) (i_X8_has) ?_
    refine x_bif_eq (pc := 15) 22 dX1_firstOf_15 (by decide) (fun c2 => ?_) (fun c2 => ?_)
    · replace h := h.1 c2
      refine x_iload_n (pc := 22) 3 dX1_firstOf_22 rfl rfl ?_
      exact x_ireturn2 (pc := 23) dX1_firstOf_23 rfl h.1 h.2
    · replace h := h.2 c2
      refine x_iload_n (pc := 18) 2 dX1_firstOf_18 rfl rfl ?_
      refine x_goto (pc := 19) 23 dX1_firstOf_19 (by decide) ?_
      exact x_ireturn2 (pc := 23) dX1_firstOf_23 rfl h.1 h.2
  · replace h := h.2 c1
    refine x_iload_n (pc := 8) 1 dX1_firstOf_8 rfl rfl ?_
    exact x_ireturn2 (pc := 9) dX1_firstOf_9 rfl h.1 h.2
theorem dX1_choose_0 : decode cX1_choose 0 = .ok (.iload_n 2, 1) := by decide +kernel
theorem dX1_choose_1 : decode cX1_choose 1 = .ok (.ifCond .ne 6, 3) := by decide +kernel
theorem dX1_choose_4 : decode cX1_choose 4 = .ok (.bipush 12, 2) := by decide +kernel
theorem dX1_choose_6 : decode cX1_choose 6 = .ok (.ireturn, 1) := by decide +kernel
theorem dX1_choose_7 : decode cX1_choose 7 = .ok (.iload_n 0, 1) := by decide +kernel
theorem dX1_choose_8 : decode cX1_choose 8 = .ok (.tableswitch 80 2 5 #[32, 37, 56, 66], 32) := by decide +kernel
theorem dX1_choose_40 : decode cX1_choose 40 = .ok (.iload_n 2, 1) := by decide +kernel
theorem dX1_choose_41 : decode cX1_choose 41 = .ok (.invokestatic 95, 3) := by decide +kernel
theorem dX1_choose_44 : decode cX1_choose 44 = .ok (.ireturn, 1) := by decide +kernel
theorem dX1_choose_45 : decode cX1_choose 45 = .ok (.iload_n 2, 1) := by decide +kernel
theorem dX1_choose_46 : decode cX1_choose 46 = .ok (.iload_n 1, 1) := by decide +kernel
theorem dX1_choose_47 : decode cX1_choose 47 = .ok (.iconst 3, 1) := by decide +kernel
theorem dX1_choose_48 : decode cX1_choose 48 = .ok (.invokestatic 98, 3) := by decide +kernel
theorem dX1_choose_51 : decode cX1_choose 51 = .ok (.iload_n 1, 1) := by decide +kernel
theorem dX1_choose_52 : decode cX1_choose 52 = .ok (.iconst 4, 1) := by decide +kernel
theorem dX1_choose_53 : decode cX1_choose 53 = .ok (.invokestatic 98, 3) := by decide +kernel
theorem dX1_choose_56 : decode cX1_choose 56 = .ok (.iload_n 2, 1) := by decide +kernel
theorem dX1_choose_57 : decode cX1_choose 57 = .ok (.invokestatic 101, 3) := by decide +kernel
theorem dX1_choose_60 : decode cX1_choose 60 = .ok (.invokestatic 104, 3) := by decide +kernel
theorem dX1_choose_63 : decode cX1_choose 63 = .ok (.ireturn, 1) := by decide +kernel
theorem dX1_choose_64 : decode cX1_choose 64 = .ok (.iload_n 2, 1) := by decide +kernel
theorem dX1_choose_65 : decode cX1_choose 65 = .ok (.iload_n 1, 1) := by decide +kernel
theorem dX1_choose_66 : decode cX1_choose 66 = .ok (.bipush 12, 2) := by decide +kernel
theorem dX1_choose_68 : decode cX1_choose 68 = .ok (.bipush 12, 2) := by decide +kernel
theorem dX1_choose_70 : decode cX1_choose 70 = .ok (.invokestatic 104, 3) := by decide +kernel
theorem dX1_choose_73 : decode cX1_choose 73 = .ok (.ireturn, 1) := by decide +kernel
theorem dX1_choose_74 : decode cX1_choose 74 = .ok (.iload_n 2, 1) := by decide +kernel
theorem dX1_choose_75 : decode cX1_choose 75 = .ok (.iload_n 1, 1) := by decide +kernel
theorem dX1_choose_76 : decode cX1_choose 76 = .ok (.iload_n 1, 1) := by decide +kernel
theorem dX1_choose_77 : decode cX1_choose 77 = .ok (.bipush 7, 2) := by decide +kernel
theorem dX1_choose_79 : decode cX1_choose 79 = .ok (.invokestatic 98, 3) := by decide +kernel
theorem dX1_choose_82 : decode cX1_choose 82 = .ok (.bipush 12, 2) := by decide +kernel
theorem dX1_choose_84 : decode cX1_choose 84 = .ok (.invokestatic 104, 3) := by decide +kernel
theorem dX1_choose_87 : decode cX1_choose 87 = .ok (.ireturn, 1) := by decide +kernel
theorem dX1_choose_88 : decode cX1_choose 88 = .ok (.iload_n 2, 1) := by decide +kernel
theorem dX1_choose_89 : decode cX1_choose 89 = .ok (.invokestatic 101, 3) := by decide +kernel
theorem dX1_choose_92 : decode cX1_choose 92 = .ok (.ireturn, 1) := by decide +kernel
def R_X1_choose (a0 : Int32) (a1 : Int32) (a2 : Int32) (σ : kS) (x : Int32) (τ : kS) : Prop := Run SX jX1_choose [(.int a0), (.int a1), (.int a2)] σ (some (.int x)) τ
set_option maxRecDepth 20000 in
theorem t_X1_choose {a0 : Int32} {a1 : Int32} {a2 : Int32} {σ : kS} {x : Int32} {τ : kS}  (h : (¬ a2 = 0 → (a0.toInt = 2 → ∃ (x4 : Int32) (s3 : kS), R_X1_greatest a2 σ x4 s3 ∧ (x = x4 ∧ τ = s3)) ∧ (a0.toInt = 3 → ∃ (x6 : Int32) (s5 : kS), R_X1_least a2 σ x6 s5 ∧ (∃ (x8 : Int32) (s7 : kS), R_X1_firstOf a2 ((a1 + (3 : Int32)) - (a1 + (3 : Int32)) / 12 * 12) ((a1 + (4 : Int32)) - (a1 + (4 : Int32)) / 12 * 12) x6 s5 x8 s7 ∧ (x = x8 ∧ τ = s7))) ∧ (a0.toInt = 4 → ∃ (x10 : Int32) (s9 : kS), R_X1_firstOf a2 a1 (12 : Int32) (12 : Int32) σ x10 s9 ∧ (x = x10 ∧ τ = s9)) ∧ (a0.toInt = 5 → ∃ (x12 : Int32) (s11 : kS), R_X1_firstOf a2 a1 ((a1 + (7 : Int32)) - (a1 + (7 : Int32)) / 12 * 12) (12 : Int32) σ x12 s11 ∧ (x = x12 ∧ τ = s11)) ∧ ((a0.toInt < 2 ∨ 5 < a0.toInt) → ∃ (x14 : Int32) (s13 : kS), R_X1_least a2 σ x14 s13 ∧ (x = x14 ∧ τ = s13))) ∧ (a2 = 0 → x = (12 : Int32) ∧ τ = σ)) : R_X1_choose a0 a1 a2 σ x τ := by
  refine x_run [some (.int a0), some (.int a1), some (.int a2)] (by decide +kernel) rfl (Nat.le_of_ble_eq_true rfl) ?_
  refine x_iload_n (pc := 0) 2 dX1_choose_0 rfl rfl ?_
  refine x_if_ne (pc := 1) 7 dX1_choose_1 (by decide) (fun c1 => ?_) (fun c1 => ?_)
  · replace h := h.1 c1
    refine x_iload_n (pc := 7) 0 dX1_choose_7 rfl rfl ?_
    refine x_table (pc := 8) 88 dX1_choose_8 (by decide +kernel) (by decide +kernel) (by decide) (k_tb_cons (fun c2 => ?_) (k_tb_cons (fun c2 => ?_) (k_tb_cons (fun c2 => ?_) (k_tb_cons (fun c2 => ?_) k_tb_nil)))) (fun c2 => ?_)
    · replace h := h.1 c2
      refine x_iload_n (pc := 40) 2 dX1_choose_40 rfl rfl ?_
      obtain ⟨x4, s3, hr, h⟩ := h
      refine x_callS (pc := 41) [(.int a2)] [] dX1_choose_41 ⟨⟨hX1_greatest.1, hX1_greatest.2.1, hX1_greatest.2.2, by decide⟩, mX1_95, sX1_greatest⟩ rfl rfl (Nat.le_of_ble_eq_true rfl) hr ?_
      exact x_ireturn2 (pc := 44) dX1_choose_44 rfl h.1 h.2
    · replace h := h.2.1 c2
      refine x_iload_n (pc := 45) 2 dX1_choose_45 rfl rfl ?_
      refine x_iload_n (pc := 46) 1 dX1_choose_46 rfl rfl ?_
      refine x_iconst (pc := 47) (3 : Int32) dX1_choose_47 (by decide +kernel) ?_
      refine x_callS (pc := 48) [(.int a1), (.int (3 : Int32))] [(.int a2)] dX1_choose_48 ⟨⟨hX1_above.1, hX1_above.2.1, hX1_above.2.2, by decide⟩, mX1_98, sX1_above⟩ rfl rfl (Nat.le_of_ble_eq_true rfl) (i_X1_above) ?_
      refine x_iload_n (pc := 51) 1 dX1_choose_51 rfl rfl ?_
      refine x_iconst (pc := 52) (4 : Int32) dX1_choose_52 (by decide +kernel) ?_
      refine x_callS (pc := 53) [(.int a1), (.int (4 : Int32))] [(.int ((a1 + (3 : Int32)) - (a1 + (3 : Int32)) / 12 * 12)), (.int a2)] dX1_choose_53 ⟨⟨hX1_above.1, hX1_above.2.1, hX1_above.2.2, by decide⟩, mX1_98, sX1_above⟩ rfl rfl (Nat.le_of_ble_eq_true rfl) (i_X1_above) ?_
      refine x_iload_n (pc := 56) 2 dX1_choose_56 rfl rfl ?_
      obtain ⟨x6, s5, hr, h⟩ := h
      refine x_callS (pc := 57) [(.int a2)] [(.int ((a1 + (4 : Int32)) - (a1 + (4 : Int32)) / 12 * 12)), (.int ((a1 + (3 : Int32)) - (a1 + (3 : Int32)) / 12 * 12)), (.int a2)] dX1_choose_57 ⟨⟨hX1_least.1, hX1_least.2.1, hX1_least.2.2, by decide⟩, mX1_101, sX1_least⟩ rfl rfl (Nat.le_of_ble_eq_true rfl) hr ?_
      obtain ⟨x8, s7, hr, h⟩ := h
      refine x_callS (pc := 60) [(.int a2), (.int ((a1 + (3 : Int32)) - (a1 + (3 : Int32)) / 12 * 12)), (.int ((a1 + (4 : Int32)) - (a1 + (4 : Int32)) / 12 * 12)), (.int x6)] [] dX1_choose_60 ⟨⟨hX1_firstOf.1, hX1_firstOf.2.1, hX1_firstOf.2.2, by decide⟩, mX1_104, sX1_firstOf⟩ rfl rfl (Nat.le_of_ble_eq_true rfl) hr ?_
      exact x_ireturn2 (pc := 63) dX1_choose_63 rfl h.1 h.2
    · replace h := h.2.2.1 c2
      refine x_iload_n (pc := 64) 2 dX1_choose_64 rfl rfl ?_
      refine x_iload_n (pc := 65) 1 dX1_choose_65 rfl rfl ?_
      refine x_bipush (pc := 66) (12 : Int32) dX1_choose_66 (by decide +kernel) ?_
      refine x_bipush (pc := 68) (12 : Int32) dX1_choose_68 (by decide +kernel) ?_
      obtain ⟨x10, s9, hr, h⟩ := h
      refine x_callS (pc := 70) [(.int a2), (.int a1), (.int (12 : Int32)), (.int (12 : Int32))] [] dX1_choose_70 ⟨⟨hX1_firstOf.1, hX1_firstOf.2.1, hX1_firstOf.2.2, by decide⟩, mX1_104, sX1_firstOf⟩ rfl rfl (Nat.le_of_ble_eq_true rfl) hr ?_
      exact x_ireturn2 (pc := 73) dX1_choose_73 rfl h.1 h.2
    · replace h := h.2.2.2.1 c2
      refine x_iload_n (pc := 74) 2 dX1_choose_74 rfl rfl ?_
      refine x_iload_n (pc := 75) 1 dX1_choose_75 rfl rfl ?_
      refine x_iload_n (pc := 76) 1 dX1_choose_76 rfl rfl ?_
      refine x_bipush (pc := 77) (7 : Int32) dX1_choose_77 (by decide +kernel) ?_
      refine x_callS (pc := 79) [(.int a1), (.int (7 : Int32))] [(.int a1), (.int a2)] dX1_choose_79 ⟨⟨hX1_above.1, hX1_above.2.1, hX1_above.2.2, by decide⟩, mX1_98, sX1_above⟩ rfl rfl (Nat.le_of_ble_eq_true rfl) (i_X1_above) ?_
      refine x_bipush (pc := 82) (12 : Int32) dX1_choose_82 (by decide +kernel) ?_
      obtain ⟨x12, s11, hr, h⟩ := h
      refine x_callS (pc := 84) [(.int a2), (.int a1), (.int ((a1 + (7 : Int32)) - (a1 + (7 : Int32)) / 12 * 12)), (.int (12 : Int32))] [] dX1_choose_84 ⟨⟨hX1_firstOf.1, hX1_firstOf.2.1, hX1_firstOf.2.2, by decide⟩, mX1_104, sX1_firstOf⟩ rfl rfl (Nat.le_of_ble_eq_true rfl) hr ?_
      exact x_ireturn2 (pc := 87) dX1_choose_87 rfl h.1 h.2
    · replace h := h.2.2.2.2 c2
      refine x_iload_n (pc := 88) 2 dX1_choose_88 rfl rfl ?_
      obtain ⟨x14, s13, hr, h⟩ := h
      refine x_callS (pc := 89) [(.int a2)] [] dX1_choose_89 ⟨⟨hX1_least.1, hX1_least.2.1, hX1_least.2.2, by decide⟩, mX1_101, sX1_least⟩ rfl rfl (Nat.le_of_ble_eq_true rfl) hr ?_
      exact x_ireturn2 (pc := 92) dX1_choose_92 rfl h.1 h.2
  · replace h := h.2 c1
    refine x_bipush (pc := 4) (12 : Int32) dX1_choose_4 (by decide +kernel) ?_
    exact x_ireturn2 (pc := 6) dX1_choose_6 rfl h.1 h.2
theorem dX1_sing_0 : decode cX1_sing 0 = .ok (.aload_n 1, 1) := by decide +kernel
theorem dX1_sing_1 : decode cX1_sing 1 = .ok (.getfield 22, 3) := by decide +kernel
theorem dX1_sing_4 : decode cX1_sing 4 = .ok (.iload_n 2, 1) := by decide +kernel
theorem dX1_sing_5 : decode cX1_sing 5 = .ok (.iaload, 1) := by decide +kernel
theorem dX1_sing_6 : decode cX1_sing 6 = .ok (.istore 4, 2) := by decide +kernel
theorem dX1_sing_8 : decode cX1_sing 8 = .ok (.iload_n 3, 1) := by decide +kernel
theorem dX1_sing_9 : decode cX1_sing 9 = .ok (.aload_n 1, 1) := by decide +kernel
theorem dX1_sing_10 : decode cX1_sing 10 = .ok (.invokevirtual 27, 3) := by decide +kernel
theorem dX1_sing_13 : decode cX1_sing 13 = .ok (.iand, 1) := by decide +kernel
theorem dX1_sing_14 : decode cX1_sing 14 = .ok (.istore 5, 2) := by decide +kernel
theorem dX1_sing_16 : decode cX1_sing 16 = .ok (.aload_n 0, 1) := by decide +kernel
theorem dX1_sing_17 : decode cX1_sing 17 = .ok (.getfield 18, 3) := by decide +kernel
theorem dX1_sing_20 : decode cX1_sing 20 = .ok (.iload 4, 2) := by decide +kernel
theorem dX1_sing_22 : decode cX1_sing 22 = .ok (.invokevirtual 31, 3) := by decide +kernel
theorem dX1_sing_25 : decode cX1_sing 25 = .ok (.istore 6, 2) := by decide +kernel
theorem dX1_sing_27 : decode cX1_sing 27 = .ok (.iconst 0, 1) := by decide +kernel
theorem dX1_sing_28 : decode cX1_sing 28 = .ok (.istore 7, 2) := by decide +kernel
theorem dX1_sing_30 : decode cX1_sing 30 = .ok (.iload 7, 2) := by decide +kernel
theorem dX1_sing_32 : decode cX1_sing 32 = .ok (.aload_n 1, 1) := by decide +kernel
theorem dX1_sing_33 : decode cX1_sing 33 = .ok (.getfield 35, 3) := by decide +kernel
theorem dX1_sing_36 : decode cX1_sing 36 = .ok (.if_icmp .ge 88, 3) := by decide +kernel
theorem dX1_sing_39 : decode cX1_sing 39 = .ok (.iload_n 3, 1) := by decide +kernel
theorem dX1_sing_40 : decode cX1_sing 40 = .ok (.iload 7, 2) := by decide +kernel
theorem dX1_sing_42 : decode cX1_sing 42 = .ok (.invokestatic 39, 3) := by decide +kernel
theorem dX1_sing_45 : decode cX1_sing 45 = .ok (.ifCond .eq 12, 3) := by decide +kernel
theorem dX1_sing_48 : decode cX1_sing 48 = .ok (.aload_n 0, 1) := by decide +kernel
theorem dX1_sing_49 : decode cX1_sing 49 = .ok (.getfield 9, 3) := by decide +kernel
theorem dX1_sing_52 : decode cX1_sing 52 = .ok (.iload 7, 2) := by decide +kernel
theorem dX1_sing_54 : decode cX1_sing 54 = .ok (.bipush 12, 2) := by decide +kernel
theorem dX1_sing_56 : decode cX1_sing 56 = .ok (.iastore, 1) := by decide +kernel
theorem dX1_sing_57 : decode cX1_sing 57 = .ok (.iload 5, 2) := by decide +kernel
theorem dX1_sing_59 : decode cX1_sing 59 = .ok (.iload 7, 2) := by decide +kernel
theorem dX1_sing_61 : decode cX1_sing 61 = .ok (.invokestatic 39, 3) := by decide +kernel
theorem dX1_sing_64 : decode cX1_sing 64 = .ok (.ifCond .eq 54, 3) := by decide +kernel
theorem dX1_sing_67 : decode cX1_sing 67 = .ok (.aload_n 0, 1) := by decide +kernel
theorem dX1_sing_68 : decode cX1_sing 68 = .ok (.getfield 9, 3) := by decide +kernel
theorem dX1_sing_71 : decode cX1_sing 71 = .ok (.iload 7, 2) := by decide +kernel
theorem dX1_sing_73 : decode cX1_sing 73 = .ok (.aload_n 1, 1) := by decide +kernel
theorem dX1_sing_74 : decode cX1_sing 74 = .ok (.getfield 43, 3) := by decide +kernel
theorem dX1_sing_77 : decode cX1_sing 77 = .ok (.iload 7, 2) := by decide +kernel
theorem dX1_sing_79 : decode cX1_sing 79 = .ok (.iaload, 1) := by decide +kernel
theorem dX1_sing_80 : decode cX1_sing 80 = .ok (.aload_n 0, 1) := by decide +kernel
theorem dX1_sing_81 : decode cX1_sing 81 = .ok (.getfield 18, 3) := by decide +kernel
theorem dX1_sing_84 : decode cX1_sing 84 = .ok (.iload 4, 2) := by decide +kernel
theorem dX1_sing_86 : decode cX1_sing 86 = .ok (.invokevirtual 46, 3) := by decide +kernel
theorem dX1_sing_89 : decode cX1_sing 89 = .ok (.iload 6, 2) := by decide +kernel
theorem dX1_sing_91 : decode cX1_sing 91 = .ok (.aload_n 1, 1) := by decide +kernel
theorem dX1_sing_92 : decode cX1_sing 92 = .ok (.iload 7, 2) := by decide +kernel
theorem dX1_sing_94 : decode cX1_sing 94 = .ok (.invokevirtual 49, 3) := by decide +kernel
theorem dX1_sing_97 : decode cX1_sing 97 = .ok (.iand, 1) := by decide +kernel
theorem dX1_sing_98 : decode cX1_sing 98 = .ok (.invokestatic 52, 3) := by decide +kernel
theorem dX1_sing_101 : decode cX1_sing 101 = .ok (.iastore, 1) := by decide +kernel
theorem dX1_sing_102 : decode cX1_sing 102 = .ok (.iload 6, 2) := by decide +kernel
theorem dX1_sing_104 : decode cX1_sing 104 = .ok (.iconst 1, 1) := by decide +kernel
theorem dX1_sing_105 : decode cX1_sing 105 = .ok (.aload_n 0, 1) := by decide +kernel
theorem dX1_sing_106 : decode cX1_sing 106 = .ok (.getfield 9, 3) := by decide +kernel
theorem dX1_sing_109 : decode cX1_sing 109 = .ok (.iload 7, 2) := by decide +kernel
theorem dX1_sing_111 : decode cX1_sing 111 = .ok (.iaload, 1) := by decide +kernel
theorem dX1_sing_112 : decode cX1_sing 112 = .ok (.ishl, 1) := by decide +kernel
theorem dX1_sing_113 : decode cX1_sing 113 = .ok (.iconst (-1), 1) := by decide +kernel
theorem dX1_sing_114 : decode cX1_sing 114 = .ok (.ixor, 1) := by decide +kernel
theorem dX1_sing_115 : decode cX1_sing 115 = .ok (.iand, 1) := by decide +kernel
theorem dX1_sing_116 : decode cX1_sing 116 = .ok (.istore 6, 2) := by decide +kernel
theorem dX1_sing_118 : decode cX1_sing 118 = .ok (.iinc 7 1, 3) := by decide +kernel
theorem dX1_sing_121 : decode cX1_sing 121 = .ok (.goto (-91), 3) := by decide +kernel
theorem dX1_sing_124 : decode cX1_sing 124 = .ok (.aload_n 0, 1) := by decide +kernel
theorem dX1_sing_125 : decode cX1_sing 125 = .ok (.getfield 18, 3) := by decide +kernel
theorem dX1_sing_128 : decode cX1_sing 128 = .ok (.iload 4, 2) := by decide +kernel
theorem dX1_sing_130 : decode cX1_sing 130 = .ok (.invokevirtual 56, 3) := by decide +kernel
theorem dX1_sing_133 : decode cX1_sing 133 = .ok (.ifCond .eq 12, 3) := by decide +kernel
theorem dX1_sing_136 : decode cX1_sing 136 = .ok (.iload 6, 2) := by decide +kernel
theorem dX1_sing_138 : decode cX1_sing 138 = .ok (.ifCond .ne 7, 3) := by decide +kernel
theorem dX1_sing_141 : decode cX1_sing 141 = .ok (.iconst 1, 1) := by decide +kernel
theorem dX1_sing_142 : decode cX1_sing 142 = .ok (.goto 4, 3) := by decide +kernel
theorem dX1_sing_145 : decode cX1_sing 145 = .ok (.iconst 0, 1) := by decide +kernel
theorem dX1_sing_146 : decode cX1_sing 146 = .ok (.ireturn, 1) := by decide +kernel
def R_X1_sing (v : Nat) (a2 : Int32) (a3 : Int32) (σ : kS) (x : Int32) (τ : kS) : Prop := Run SX jX1_sing [(.ref 27), (.ref v), (.int a2), (.int a3)] σ (some (.int x)) τ
def E_X1_sing_30 (v : Nat) (l3 : Int32) (l4 : Int32) (l5 : Int32) (l6 : Int32) (l7 : Int32) (σ : kS) (x : Int32) (τ : kS) : Prop := Ex SX jX1_sing 30 [some (.ref 27), some (.ref v), none, some (.int l3), some (.int l4), some (.int l5), some (.int l6), some (.int l7)] [] σ (some (.int x)) τ
def E_X1_sing_57 (v : Nat) (l3 : Int32) (l4 : Int32) (l5 : Int32) (l6 : Int32) (l7 : Int32) (σ : kS) (x : Int32) (τ : kS) : Prop := Ex SX jX1_sing 57 [some (.ref 27), some (.ref v), none, some (.int l3), some (.int l4), some (.int l5), some (.int l6), some (.int l7)] [] σ (some (.int x)) τ
set_option maxRecDepth 20000 in
theorem t_X1_sing {v : Nat} {a2 : Int32} {a3 : Int32} {σ : kS} {x : Int32} {τ : kS} (hv : k_vly v = true) (h : vp_in a2 5 ∧ (∃ (x3 : Int32) (s2 : kS), R_X7_rested v σ x3 s2 ∧ (∃ (x5 : Int32) (s4 : kS), R_X2_missingOf (σ.1 (v + 2) a2.toNatClampNeg) s2 x5 s4 ∧ (E_X1_sing_30 v a3 (σ.1 (v + 2) a2.toNatClampNeg) (a3 &&& x3) x5 (0 : Int32) s4 x τ)))) : R_X1_sing v a2 a3 σ x τ := by
  refine x_run [some (.ref 27), some (.ref v), some (.int a2), some (.int a3), none, none, none, none] (by decide +kernel) rfl (Nat.le_of_ble_eq_true rfl) ?_
  refine x_aload_n (pc := 0) 1 dX1_sing_0 rfl rfl ?_
  refine x_getR (pc := 1) dX1_sing_1 fX1_22 (vl_is hv) (vl_r5 hv) ?_
  refine x_iload_n (pc := 4) 2 dX1_sing_4 rfl rfl ?_
  obtain ⟨g1, h⟩ := h
  refine x_iaload (pc := 5) (n := 5) dX1_sing_5 (vl_a5 hv) g1 ?_
  refine x_istore (pc := 6) dX1_sing_6 (by decide) rfl ?_
  refine x_iload_n (pc := 8) 3 dX1_sing_8 rfl rfl ?_
  refine x_aload_n (pc := 9) 1 dX1_sing_9 rfl rfl ?_
  obtain ⟨x3, s2, hr, h⟩ := h
  refine x_callV (pc := 10) [] [(.int a3)] dX1_sing_10 ⟨⟨hX7_rested.1, hX7_rested.2.1, hX7_rested.2.2, by decide⟩, mX1_27, vX7_rested.1, vX7_rested.2⟩ (ci := 7) rfl (vl_is hv) rfl rfl (Nat.le_of_ble_eq_true rfl) hr ?_
  refine x_iand (pc := 13) dX1_sing_13 ?_
  refine x_istore (pc := 14) dX1_sing_14 (by decide) rfl ?_
  refine x_aload_n (pc := 16) 0 dX1_sing_16 rfl rfl ?_
  refine x_getR (pc := 17) dX1_sing_17 fX1_18 rfl rfl ?_
  refine x_iload (pc := 20) dX1_sing_20 rfl ?_
  obtain ⟨x5, s4, hr, h⟩ := h
  refine x_callV (pc := 22) [(.int (σ.1 (v + 2) a2.toNatClampNeg))] [] dX1_sing_22 ⟨⟨hX2_missingOf.1, hX2_missingOf.2.1, hX2_missingOf.2.2, by decide⟩, mX1_31, vX2_missingOf.1, vX2_missingOf.2⟩ (ci := 2) rfl rfl rfl rfl (Nat.le_of_ble_eq_true rfl) hr ?_
  refine x_istore (pc := 25) dX1_sing_25 (by decide) rfl ?_
  refine x_iconst (pc := 27) (0 : Int32) dX1_sing_27 (by decide +kernel) ?_
  refine x_istore (pc := 28) dX1_sing_28 (by decide) rfl ?_
  exact x_mask [true, true, false, true, true, true, true, true] h
set_option maxRecDepth 20000 in
theorem t_X1_sing_30 {v : Nat} {l3 : Int32} {l4 : Int32} {l5 : Int32} {l6 : Int32} {l7 : Int32} {σ : kS} {x : Int32} {τ : kS} (hv : k_vly v = true) (h : ((σ.1 v 2) ≤ l7 → ∃ (x3 : Int32) (s2 : kS), R_X2_isThere l4 σ x3 s2 ∧ ((x3 = 0 → x = (0 : Int32) ∧ τ = s2) ∧ (¬ x3 = 0 → (¬ l6 = 0 → x = (0 : Int32) ∧ τ = s2) ∧ (l6 = 0 → x = (1 : Int32) ∧ τ = s2)))) ∧ (¬ (σ.1 v 2) ≤ l7 → (¬ (hs l3 l7) → E_X1_sing_57 v l3 l4 l5 l6 l7 σ x τ) ∧ ((hs l3 l7) → vp_in l7 5 ∧ (E_X1_sing_57 v l3 l4 l5 l6 l7 (k_si σ 28 l7.toNatClampNeg (12 : Int32)) x τ)))) : E_X1_sing_30 v l3 l4 l5 l6 l7 σ x τ := by
  unfold E_X1_sing_30
  refine x_iload (pc := 30) dX1_sing_30 rfl ?_
  refine x_aload_n (pc := 32) 1 dX1_sing_32 rfl rfl ?_
  refine x_getI (pc := 33) dX1_sing_33 fX1_35 (vl_is hv) (vl_i2 hv) ?_
  refine x_icmp_ge (pc := 36) 124 dX1_sing_36 (by decide) (fun c1 => ?_) (fun c1 => ?_)
  · replace h := h.1 c1
    refine x_aload_n (pc := 124) 0 dX1_sing_124 rfl rfl ?_
    refine x_getR (pc := 125) dX1_sing_125 fX1_18 rfl rfl ?_
    refine x_iload (pc := 128) dX1_sing_128 rfl ?_
    obtain ⟨x3, s2, hr, h⟩ := h
    refine x_callV (pc := 130) [(.int l4)] [] dX1_sing_130 ⟨⟨hX2_isThere.1, hX2_isThere.2.1, hX2_isThere.2.2, by decide⟩, mX1_56, vX2_isThere.1, vX2_isThere.2⟩ (ci := 2) rfl rfl rfl rfl (Nat.le_of_ble_eq_true rfl) hr ?_
    refine x_if_eq (pc := 133) 145 dX1_sing_133 (by decide) (fun c4 => ?_) (fun c4 => ?_)
    · replace h := h.1 c4
      refine x_iconst (pc := 145) (0 : Int32) dX1_sing_145 (by decide +kernel) ?_
      exact x_zreturn2 (pc := 146) dX1_sing_146 rfl rfl h.1 h.2
    · replace h := h.2 c4
      refine x_iload (pc := 136) dX1_sing_136 rfl ?_
      refine x_if_ne (pc := 138) 145 dX1_sing_138 (by decide) (fun c5 => ?_) (fun c5 => ?_)
      · replace h := h.1 c5
        refine x_iconst (pc := 145) (0 : Int32) dX1_sing_145 (by decide +kernel) ?_
        exact x_zreturn2 (pc := 146) dX1_sing_146 rfl rfl h.1 h.2
      · replace h := h.2 c5
        refine x_iconst (pc := 141) (1 : Int32) dX1_sing_141 (by decide +kernel) ?_
        refine x_goto (pc := 142) 146 dX1_sing_142 (by decide) ?_
        exact x_zreturn2 (pc := 146) dX1_sing_146 rfl rfl h.1 h.2
  · replace h := h.2 c1
    refine x_iload_n (pc := 39) 3 dX1_sing_39 rfl rfl ?_
    refine x_iload (pc := 40) dX1_sing_40 rfl ?_
    refine x_callN (pc := 42) [(.int l3), (.int l7)] [] dX1_sing_42 ⟨⟨hX8_has.1, hX8_has.2.1, hX8_has.2.2, by decide⟩, ⟨_, List.mem_of_getElem? (i := 1) rfl⟩, sX8_has⟩ rfl rfl (Nat.le_of_ble_eq_true rfl) (i_X8_has) ?_
    refine x_bif_eq (pc := 45) 57 dX1_sing_45 (by decide) (fun c6 => ?_) (fun c6 => ?_)
    · replace h := h.1 c6
      exact h
    · replace h := h.2 c6
      refine x_aload_n (pc := 48) 0 dX1_sing_48 rfl rfl ?_
      refine x_getR (pc := 49) dX1_sing_49 fX1_9 rfl rfl ?_
      refine x_iload (pc := 52) dX1_sing_52 rfl ?_
      refine x_bipush (pc := 54) (12 : Int32) dX1_sing_54 (by decide +kernel) ?_
      obtain ⟨g7, h⟩ := h
      refine x_iastore (pc := 56) (n := 5) dX1_sing_56 rfl g7 ?_
      exact h
set_option maxRecDepth 20000 in
theorem t_X1_sing_57 {v : Nat} {l3 : Int32} {l4 : Int32} {l5 : Int32} {l6 : Int32} {l7 : Int32} {σ : kS} {x : Int32} {τ : kS} (hv : k_vly v = true) (h : (¬ (hs l5 l7) → E_X1_sing_30 v l3 l4 l5 l6 (l7 + (1 : Int32)) σ x τ) ∧ ((hs l5 l7) → vp_in l7 5 ∧ (∃ (x4 : Int32) (s3 : kS), R_X2_rootOf l4 σ x4 s3 ∧ (∃ (x6 : Int32) (s5 : kS), R_X7_range v l7 s3 x6 s5 ∧ (∃ (x8 : Int32) (s7 : kS), R_X1_choose (σ.1 (v + 3) l7.toNatClampNeg) x4 (l6 &&& x6) s5 x8 s7 ∧ (vp_in l7 5 ∧ (vp_in l7 5 ∧ (E_X1_sing_30 v l3 l4 l5 (l6 &&& (((1 : Int32) <<< (((k_si s7 28 l7.toNatClampNeg x8).1 28 l7.toNatClampNeg) &&& 31)) ^^^ (-1 : Int32))) (l7 + (1 : Int32)) (k_si s7 28 l7.toNatClampNeg x8) x τ)))))))) : E_X1_sing_57 v l3 l4 l5 l6 l7 σ x τ := by
  unfold E_X1_sing_57
  refine x_iload (pc := 57) dX1_sing_57 rfl ?_
  refine x_iload (pc := 59) dX1_sing_59 rfl ?_
  refine x_callN (pc := 61) [(.int l5), (.int l7)] [] dX1_sing_61 ⟨⟨hX8_has.1, hX8_has.2.1, hX8_has.2.2, by decide⟩, ⟨_, List.mem_of_getElem? (i := 1) rfl⟩, sX8_has⟩ rfl rfl (Nat.le_of_ble_eq_true rfl) (i_X8_has) ?_
  refine x_bif_eq (pc := 64) 118 dX1_sing_64 (by decide) (fun c1 => ?_) (fun c1 => ?_)
  · replace h := h.1 c1
    refine x_iinc (pc := 118) (1 : Int32) dX1_sing_118 (by decide) rfl rfl (by decide +kernel) ?_
    refine x_goto (pc := 121) 30 dX1_sing_121 (by decide) ?_
    exact h
  · replace h := h.2 c1
    refine x_aload_n (pc := 67) 0 dX1_sing_67 rfl rfl ?_
    refine x_getR (pc := 68) dX1_sing_68 fX1_9 rfl rfl ?_
    refine x_iload (pc := 71) dX1_sing_71 rfl ?_
    refine x_aload_n (pc := 73) 1 dX1_sing_73 rfl rfl ?_
    refine x_getR (pc := 74) dX1_sing_74 fX1_43 (vl_is hv) (vl_r6 hv) ?_
    refine x_iload (pc := 77) dX1_sing_77 rfl ?_
    obtain ⟨g2, h⟩ := h
    refine x_iaload (pc := 79) (n := 5) dX1_sing_79 (vl_a6 hv) g2 ?_
    refine x_aload_n (pc := 80) 0 dX1_sing_80 rfl rfl ?_
    refine x_getR (pc := 81) dX1_sing_81 fX1_18 rfl rfl ?_
    refine x_iload (pc := 84) dX1_sing_84 rfl ?_
    obtain ⟨x4, s3, hr, h⟩ := h
    refine x_callV (pc := 86) [(.int l4)] [(.int (σ.1 (v + 3) l7.toNatClampNeg)), (.int l7), (.ref 28)] dX1_sing_86 ⟨⟨hX2_rootOf.1, hX2_rootOf.2.1, hX2_rootOf.2.2, by decide⟩, mX1_46, vX2_rootOf.1, vX2_rootOf.2⟩ (ci := 2) rfl rfl rfl rfl (Nat.le_of_ble_eq_true rfl) hr ?_
    refine x_iload (pc := 89) dX1_sing_89 rfl ?_
    refine x_aload_n (pc := 91) 1 dX1_sing_91 rfl rfl ?_
    refine x_iload (pc := 92) dX1_sing_92 rfl ?_
    obtain ⟨x6, s5, hr, h⟩ := h
    refine x_callV (pc := 94) [(.int l7)] [(.int l6), (.int x4), (.int (σ.1 (v + 3) l7.toNatClampNeg)), (.int l7), (.ref 28)] dX1_sing_94 ⟨⟨hX7_range.1, hX7_range.2.1, hX7_range.2.2, by decide⟩, mX1_49, vX7_range.1, vX7_range.2⟩ (ci := 7) rfl (vl_is hv) rfl rfl (Nat.le_of_ble_eq_true rfl) hr ?_
    refine x_iand (pc := 97) dX1_sing_97 ?_
    obtain ⟨x8, s7, hr, h⟩ := h
    refine x_callS (pc := 98) [(.int (σ.1 (v + 3) l7.toNatClampNeg)), (.int x4), (.int (l6 &&& x6))] [(.int l7), (.ref 28)] dX1_sing_98 ⟨⟨hX1_choose.1, hX1_choose.2.1, hX1_choose.2.2, by decide⟩, mX1_52, sX1_choose⟩ rfl rfl (Nat.le_of_ble_eq_true rfl) hr ?_
    obtain ⟨g9, h⟩ := h
    refine x_iastore (pc := 101) (n := 5) dX1_sing_101 rfl g9 ?_
    refine x_iload (pc := 102) dX1_sing_102 rfl ?_
    refine x_iconst (pc := 104) (1 : Int32) dX1_sing_104 (by decide +kernel) ?_
    refine x_aload_n (pc := 105) 0 dX1_sing_105 rfl rfl ?_
    refine x_getR (pc := 106) dX1_sing_106 fX1_9 rfl rfl ?_
    refine x_iload (pc := 109) dX1_sing_109 rfl ?_
    obtain ⟨g10, h⟩ := h
    refine x_iaload (pc := 111) (n := 5) dX1_sing_111 rfl g10 ?_
    refine x_ishl (pc := 112) dX1_sing_112 ?_
    refine x_iconst (pc := 113) (-1 : Int32) dX1_sing_113 (by decide +kernel) ?_
    refine x_ixor (pc := 114) dX1_sing_114 ?_
    refine x_iand (pc := 115) dX1_sing_115 ?_
    refine x_istore (pc := 116) dX1_sing_116 (by decide) rfl ?_
    refine x_iinc (pc := 118) (1 : Int32) dX1_sing_118 (by decide) rfl rfl (by decide +kernel) ?_
    refine x_goto (pc := 121) 30 dX1_sing_121 (by decide) ?_
    exact h
theorem dJ7_fill_53178_0 : decode cJ7_fill_53178 0 = .ok (.iconst 0, 1) := by decide +kernel
theorem dJ7_fill_53178_1 : decode cJ7_fill_53178 1 = .ok (.istore_n 2, 1) := by decide +kernel
theorem dJ7_fill_53178_2 : decode cJ7_fill_53178 2 = .ok (.aload_n 0, 1) := by decide +kernel
theorem dJ7_fill_53178_3 : decode cJ7_fill_53178 3 = .ok (.arraylength, 1) := by decide +kernel
theorem dJ7_fill_53178_4 : decode cJ7_fill_53178 4 = .ok (.istore_n 3, 1) := by decide +kernel
theorem dJ7_fill_53178_5 : decode cJ7_fill_53178 5 = .ok (.iload_n 2, 1) := by decide +kernel
theorem dJ7_fill_53178_6 : decode cJ7_fill_53178 6 = .ok (.iload_n 3, 1) := by decide +kernel
theorem dJ7_fill_53178_7 : decode cJ7_fill_53178 7 = .ok (.if_icmp .ge 13, 3) := by decide +kernel
theorem dJ7_fill_53178_10 : decode cJ7_fill_53178 10 = .ok (.aload_n 0, 1) := by decide +kernel
theorem dJ7_fill_53178_11 : decode cJ7_fill_53178 11 = .ok (.iload_n 2, 1) := by decide +kernel
theorem dJ7_fill_53178_12 : decode cJ7_fill_53178 12 = .ok (.iload_n 1, 1) := by decide +kernel
theorem dJ7_fill_53178_13 : decode cJ7_fill_53178 13 = .ok (.iastore, 1) := by decide +kernel
theorem dJ7_fill_53178_14 : decode cJ7_fill_53178 14 = .ok (.iinc 2 1, 3) := by decide +kernel
theorem dJ7_fill_53178_17 : decode cJ7_fill_53178 17 = .ok (.goto (-12), 3) := by decide +kernel
theorem dJ7_fill_53178_20 : decode cJ7_fill_53178 20 = .ok (.return_, 1) := by decide +kernel
def R_J7_fill_53178 (r0 : Nat) (n0 : Nat) (a1 : Int32) (σ : kS) (τ : kS) : Prop := Run SX jJ7_fill_53178 [(.ref r0), (.int a1)] σ none τ
def E_J7_fill_53178_5 (r0 : Nat) (n0 : Nat) (l1 : Int32) (l2 : Int32) (l3 : Int32) (σ : kS) (τ : kS) : Prop := Ex SX jJ7_fill_53178 5 [some (.ref r0), some (.int l1), some (.int l2), some (.int l3)] [] σ none τ
set_option maxRecDepth 20000 in
theorem t_J7_fill_53178 {r0 : Nat} {n0 : Nat} {a1 : Int32} {σ : kS} {τ : kS} (hr0 : k_is SX r0 1 n0 = true) (h : E_J7_fill_53178_5 r0 n0 a1 (0 : Int32) (nI n0) σ τ) : R_J7_fill_53178 r0 n0 a1 σ τ := by
  refine x_run [some (.ref r0), some (.int a1), none, none] (by decide +kernel) rfl (Nat.le_of_ble_eq_true rfl) ?_
  refine x_iconst (pc := 0) (0 : Int32) dJ7_fill_53178_0 (by decide +kernel) ?_
  refine x_istore_n (pc := 1) 2 dJ7_fill_53178_1 rfl (by decide) rfl ?_
  refine x_aload_n (pc := 2) 0 dJ7_fill_53178_2 rfl rfl ?_
  refine x_ilen (pc := 3) (n := n0) dJ7_fill_53178_3 hr0 ?_
  refine x_istore_n (pc := 4) 3 dJ7_fill_53178_4 rfl (by decide) rfl ?_
  exact h
set_option maxRecDepth 20000 in
theorem t_J7_fill_53178_5 {r0 : Nat} {n0 : Nat} {l1 : Int32} {l2 : Int32} {l3 : Int32} {σ : kS} {τ : kS} (hr0 : k_is SX r0 1 n0 = true) (h : (l3 ≤ l2 → τ = σ) ∧ (¬ l3 ≤ l2 → vp_in l2 n0 ∧ (E_J7_fill_53178_5 r0 n0 l1 (l2 + (1 : Int32)) l3 (k_si σ r0 l2.toNatClampNeg l1) τ))) : E_J7_fill_53178_5 r0 n0 l1 l2 l3 σ τ := by
  unfold E_J7_fill_53178_5
  refine x_iload_n (pc := 5) 2 dJ7_fill_53178_5 rfl rfl ?_
  refine x_iload_n (pc := 6) 3 dJ7_fill_53178_6 rfl rfl ?_
  refine x_icmp_ge (pc := 7) 20 dJ7_fill_53178_7 (by decide) (fun c1 => ?_) (fun c1 => ?_)
  · replace h := h.1 c1
    exact x_return2 (pc := 20) dJ7_fill_53178_20 rfl h
  · replace h := h.2 c1
    refine x_aload_n (pc := 10) 0 dJ7_fill_53178_10 rfl rfl ?_
    refine x_iload_n (pc := 11) 2 dJ7_fill_53178_11 rfl rfl ?_
    refine x_iload_n (pc := 12) 1 dJ7_fill_53178_12 rfl rfl ?_
    obtain ⟨g2, h⟩ := h
    refine x_iastore (pc := 13) (n := n0) dJ7_fill_53178_13 hr0 g2 ?_
    refine x_iinc (pc := 14) (1 : Int32) dJ7_fill_53178_14 (by decide) rfl rfl (by decide +kernel) ?_
    refine x_goto (pc := 17) 5 dJ7_fill_53178_17 (by decide) ?_
    exact h
theorem dX7_standing_0 : decode cX7_standing 0 = .ok (.iconst 0, 1) := by decide +kernel
theorem dX7_standing_1 : decode cX7_standing 1 = .ok (.istore_n 2, 1) := by decide +kernel
theorem dX7_standing_2 : decode cX7_standing 2 = .ok (.iconst 0, 1) := by decide +kernel
theorem dX7_standing_3 : decode cX7_standing 3 = .ok (.istore_n 3, 1) := by decide +kernel
theorem dX7_standing_4 : decode cX7_standing 4 = .ok (.iload_n 3, 1) := by decide +kernel
theorem dX7_standing_5 : decode cX7_standing 5 = .ok (.aload_n 0, 1) := by decide +kernel
theorem dX7_standing_6 : decode cX7_standing 6 = .ok (.getfield 37, 3) := by decide +kernel
theorem dX7_standing_9 : decode cX7_standing 9 = .ok (.if_icmp .ge 25, 3) := by decide +kernel
theorem dX7_standing_12 : decode cX7_standing 12 = .ok (.aload_n 0, 1) := by decide +kernel
theorem dX7_standing_13 : decode cX7_standing 13 = .ok (.getfield 27, 3) := by decide +kernel
theorem dX7_standing_16 : decode cX7_standing 16 = .ok (.iload_n 3, 1) := by decide +kernel
theorem dX7_standing_17 : decode cX7_standing 17 = .ok (.iaload, 1) := by decide +kernel
theorem dX7_standing_18 : decode cX7_standing 18 = .ok (.iload_n 1, 1) := by decide +kernel
theorem dX7_standing_19 : decode cX7_standing 19 = .ok (.if_icmp .ne 9, 3) := by decide +kernel
theorem dX7_standing_22 : decode cX7_standing 22 = .ok (.iload_n 2, 1) := by decide +kernel
theorem dX7_standing_23 : decode cX7_standing 23 = .ok (.iconst 1, 1) := by decide +kernel
theorem dX7_standing_24 : decode cX7_standing 24 = .ok (.iload_n 3, 1) := by decide +kernel
theorem dX7_standing_25 : decode cX7_standing 25 = .ok (.ishl, 1) := by decide +kernel
theorem dX7_standing_26 : decode cX7_standing 26 = .ok (.ior, 1) := by decide +kernel
theorem dX7_standing_27 : decode cX7_standing 27 = .ok (.istore_n 2, 1) := by decide +kernel
theorem dX7_standing_28 : decode cX7_standing 28 = .ok (.iinc 3 1, 3) := by decide +kernel
theorem dX7_standing_31 : decode cX7_standing 31 = .ok (.goto (-27), 3) := by decide +kernel
theorem dX7_standing_34 : decode cX7_standing 34 = .ok (.iload_n 2, 1) := by decide +kernel
theorem dX7_standing_35 : decode cX7_standing 35 = .ok (.ireturn, 1) := by decide +kernel
def R_X7_standing (v : Nat) (a1 : Int32) (σ : kS) (x : Int32) (τ : kS) : Prop := Run SX jX7_standing [(.ref v), (.int a1)] σ (some (.int x)) τ
def E_X7_standing_4 (v : Nat) (l1 : Int32) (l2 : Int32) (l3 : Int32) (σ : kS) (x : Int32) (τ : kS) : Prop := Ex SX jX7_standing 4 [some (.ref v), some (.int l1), some (.int l2), some (.int l3)] [] σ (some (.int x)) τ
set_option maxRecDepth 20000 in
theorem t_X7_standing {v : Nat} {a1 : Int32} {σ : kS} {x : Int32} {τ : kS} (hv : k_vly v = true) (h : E_X7_standing_4 v a1 (0 : Int32) (0 : Int32) σ x τ) : R_X7_standing v a1 σ x τ := by
  refine x_run [some (.ref v), some (.int a1), none, none] (by decide +kernel) rfl (Nat.le_of_ble_eq_true rfl) ?_
  refine x_iconst (pc := 0) (0 : Int32) dX7_standing_0 (by decide +kernel) ?_
  refine x_istore_n (pc := 1) 2 dX7_standing_1 rfl (by decide) rfl ?_
  refine x_iconst (pc := 2) (0 : Int32) dX7_standing_2 (by decide +kernel) ?_
  refine x_istore_n (pc := 3) 3 dX7_standing_3 rfl (by decide) rfl ?_
  exact h
set_option maxRecDepth 20000 in
theorem t_X7_standing_4 {v : Nat} {l1 : Int32} {l2 : Int32} {l3 : Int32} {σ : kS} {x : Int32} {τ : kS} (hv : k_vly v = true) (h : ((σ.1 v 2) ≤ l3 → x = l2 ∧ τ = σ) ∧ (¬ (σ.1 v 2) ≤ l3 → vp_in l3 5 ∧ ((¬ (σ.1 (v + 6) l3.toNatClampNeg) = l1 → E_X7_standing_4 v l1 l2 (l3 + (1 : Int32)) σ x τ) ∧ ((σ.1 (v + 6) l3.toNatClampNeg) = l1 → E_X7_standing_4 v l1 (l2 ||| ((1 : Int32) <<< (l3 &&& 31))) (l3 + (1 : Int32)) σ x τ)))) : E_X7_standing_4 v l1 l2 l3 σ x τ := by
  unfold E_X7_standing_4
  refine x_iload_n (pc := 4) 3 dX7_standing_4 rfl rfl ?_
  refine x_aload_n (pc := 5) 0 dX7_standing_5 rfl rfl ?_
  refine x_getI (pc := 6) dX7_standing_6 fX7_37 (vl_is hv) (vl_i2 hv) ?_
  refine x_icmp_ge (pc := 9) 34 dX7_standing_9 (by decide) (fun c1 => ?_) (fun c1 => ?_)
  · replace h := h.1 c1
    refine x_iload_n (pc := 34) 2 dX7_standing_34 rfl rfl ?_
    exact x_ireturn2 (pc := 35) dX7_standing_35 rfl h.1 h.2
  · replace h := h.2 c1
    refine x_aload_n (pc := 12) 0 dX7_standing_12 rfl rfl ?_
    refine x_getR (pc := 13) dX7_standing_13 fX7_27 (vl_is hv) (vl_r9 hv) ?_
    refine x_iload_n (pc := 16) 3 dX7_standing_16 rfl rfl ?_
    obtain ⟨g2, h⟩ := h
    refine x_iaload (pc := 17) (n := 5) dX7_standing_17 (vl_a9 hv) g2 ?_
    refine x_iload_n (pc := 18) 1 dX7_standing_18 rfl rfl ?_
    refine x_icmp_ne (pc := 19) 28 dX7_standing_19 (by decide) (fun c3 => ?_) (fun c3 => ?_)
    · replace h := h.1 c3
      refine x_iinc (pc := 28) (1 : Int32) dX7_standing_28 (by decide) rfl rfl (by decide +kernel) ?_
      refine x_goto (pc := 31) 4 dX7_standing_31 (by decide) ?_
      exact h
    · replace h := h.2 c3
      refine x_iload_n (pc := 22) 2 dX7_standing_22 rfl rfl ?_
      refine x_iconst (pc := 23) (1 : Int32) dX7_standing_23 (by decide +kernel) ?_
      refine x_iload_n (pc := 24) 3 dX7_standing_24 rfl rfl ?_
      refine x_ishl (pc := 25) dX7_standing_25 ?_
      refine x_ior (pc := 26) dX7_standing_26 ?_
      refine x_istore_n (pc := 27) 2 dX7_standing_27 rfl (by decide) rfl ?_
      refine x_iinc (pc := 28) (1 : Int32) dX7_standing_28 (by decide) rfl rfl (by decide +kernel) ?_
      refine x_goto (pc := 31) 4 dX7_standing_31 (by decide) ?_
      exact h
theorem dX1_singAll_0 : decode cX1_singAll 0 = .ok (.aload_n 0, 1) := by decide +kernel
theorem dX1_singAll_1 : decode cX1_singAll 1 = .ok (.getfield 9, 3) := by decide +kernel
theorem dX1_singAll_4 : decode cX1_singAll 4 = .ok (.bipush 12, 2) := by decide +kernel
theorem dX1_singAll_6 : decode cX1_singAll 6 = .ok (.invokestatic 60, 3) := by decide +kernel
theorem dX1_singAll_9 : decode cX1_singAll 9 = .ok (.iconst 0, 1) := by decide +kernel
theorem dX1_singAll_10 : decode cX1_singAll 10 = .ok (.istore_n 2, 1) := by decide +kernel
theorem dX1_singAll_11 : decode cX1_singAll 11 = .ok (.iconst 0, 1) := by decide +kernel
theorem dX1_singAll_12 : decode cX1_singAll 12 = .ok (.istore_n 3, 1) := by decide +kernel
theorem dX1_singAll_13 : decode cX1_singAll 13 = .ok (.iload_n 3, 1) := by decide +kernel
theorem dX1_singAll_14 : decode cX1_singAll 14 = .ok (.aload_n 1, 1) := by decide +kernel
theorem dX1_singAll_15 : decode cX1_singAll 15 = .ok (.getfield 66, 3) := by decide +kernel
theorem dX1_singAll_18 : decode cX1_singAll 18 = .ok (.if_icmp .ge 29, 3) := by decide +kernel
theorem dX1_singAll_21 : decode cX1_singAll 21 = .ok (.aload_n 0, 1) := by decide +kernel
theorem dX1_singAll_22 : decode cX1_singAll 22 = .ok (.aload_n 1, 1) := by decide +kernel
theorem dX1_singAll_23 : decode cX1_singAll 23 = .ok (.iload_n 3, 1) := by decide +kernel
theorem dX1_singAll_24 : decode cX1_singAll 24 = .ok (.aload_n 1, 1) := by decide +kernel
theorem dX1_singAll_25 : decode cX1_singAll 25 = .ok (.iload_n 3, 1) := by decide +kernel
theorem dX1_singAll_26 : decode cX1_singAll 26 = .ok (.invokevirtual 69, 3) := by decide +kernel
theorem dX1_singAll_29 : decode cX1_singAll 29 = .ok (.invokevirtual 72, 3) := by decide +kernel
theorem dX1_singAll_32 : decode cX1_singAll 32 = .ok (.ifCond .eq 9, 3) := by decide +kernel
theorem dX1_singAll_35 : decode cX1_singAll 35 = .ok (.iload_n 2, 1) := by decide +kernel
theorem dX1_singAll_36 : decode cX1_singAll 36 = .ok (.iconst 1, 1) := by decide +kernel
theorem dX1_singAll_37 : decode cX1_singAll 37 = .ok (.iload_n 3, 1) := by decide +kernel
theorem dX1_singAll_38 : decode cX1_singAll 38 = .ok (.ishl, 1) := by decide +kernel
theorem dX1_singAll_39 : decode cX1_singAll 39 = .ok (.ior, 1) := by decide +kernel
theorem dX1_singAll_40 : decode cX1_singAll 40 = .ok (.istore_n 2, 1) := by decide +kernel
theorem dX1_singAll_41 : decode cX1_singAll 41 = .ok (.iinc 3 1, 3) := by decide +kernel
theorem dX1_singAll_44 : decode cX1_singAll 44 = .ok (.goto (-31), 3) := by decide +kernel
theorem dX1_singAll_47 : decode cX1_singAll 47 = .ok (.iload_n 2, 1) := by decide +kernel
theorem dX1_singAll_48 : decode cX1_singAll 48 = .ok (.ireturn, 1) := by decide +kernel
def R_X1_singAll (v : Nat) (σ : kS) (x : Int32) (τ : kS) : Prop := Run SX jX1_singAll [(.ref 27), (.ref v)] σ (some (.int x)) τ
def E_X1_singAll_13 (v : Nat) (l2 : Int32) (l3 : Int32) (σ : kS) (x : Int32) (τ : kS) : Prop := Ex SX jX1_singAll 13 [some (.ref 27), some (.ref v), some (.int l2), some (.int l3)] [] σ (some (.int x)) τ
set_option maxRecDepth 20000 in
theorem t_X1_singAll {v : Nat} {σ : kS} {x : Int32} {τ : kS} (hv : k_vly v = true) (h : ∃ s1 : kS, R_J7_fill_53178 28 5 (12 : Int32) σ s1 ∧ (E_X1_singAll_13 v (0 : Int32) (0 : Int32) s1 x τ)) : R_X1_singAll v σ x τ := by
  refine x_run [some (.ref 27), some (.ref v), none, none] (by decide +kernel) rfl (Nat.le_of_ble_eq_true rfl) ?_
  refine x_aload_n (pc := 0) 0 dX1_singAll_0 rfl rfl ?_
  refine x_getR (pc := 1) dX1_singAll_1 fX1_9 rfl rfl ?_
  refine x_bipush (pc := 4) (12 : Int32) dX1_singAll_4 (by decide +kernel) ?_
  obtain ⟨s1, hr, h⟩ := h
  refine x_callS (pc := 6) [(.ref 28), (.int (12 : Int32))] [] dX1_singAll_6 ⟨⟨hJ7_fill_53178.1, hJ7_fill_53178.2.1, hJ7_fill_53178.2.2, by decide⟩, mX1_60, sJ7_fill_53178⟩ rfl rfl (Nat.le_of_ble_eq_true rfl) hr ?_
  refine x_iconst (pc := 9) (0 : Int32) dX1_singAll_9 (by decide +kernel) ?_
  refine x_istore_n (pc := 10) 2 dX1_singAll_10 rfl (by decide) rfl ?_
  refine x_iconst (pc := 11) (0 : Int32) dX1_singAll_11 (by decide +kernel) ?_
  refine x_istore_n (pc := 12) 3 dX1_singAll_12 rfl (by decide) rfl ?_
  exact h
set_option maxRecDepth 20000 in
theorem t_X1_singAll_13 {v : Nat} {l2 : Int32} {l3 : Int32} {σ : kS} {x : Int32} {τ : kS} (hv : k_vly v = true) (h : ((σ.1 v 1) ≤ l3 → x = l2 ∧ τ = σ) ∧ (¬ (σ.1 v 1) ≤ l3 → ∃ (x3 : Int32) (s2 : kS), R_X7_standing v l3 σ x3 s2 ∧ (∃ (x5 : Int32) (s4 : kS), R_X1_sing v l3 x3 s2 x5 s4 ∧ ((x5 = 0 → E_X1_singAll_13 v l2 (l3 + (1 : Int32)) s4 x τ) ∧ (¬ x5 = 0 → E_X1_singAll_13 v (l2 ||| ((1 : Int32) <<< (l3 &&& 31))) (l3 + (1 : Int32)) s4 x τ))))) : E_X1_singAll_13 v l2 l3 σ x τ := by
  unfold E_X1_singAll_13
  refine x_iload_n (pc := 13) 3 dX1_singAll_13 rfl rfl ?_
  refine x_aload_n (pc := 14) 1 dX1_singAll_14 rfl rfl ?_
  refine x_getI (pc := 15) dX1_singAll_15 fX1_66 (vl_is hv) (vl_i1 hv) ?_
  refine x_icmp_ge (pc := 18) 47 dX1_singAll_18 (by decide) (fun c1 => ?_) (fun c1 => ?_)
  · replace h := h.1 c1
    refine x_iload_n (pc := 47) 2 dX1_singAll_47 rfl rfl ?_
    exact x_ireturn2 (pc := 48) dX1_singAll_48 rfl h.1 h.2
  · replace h := h.2 c1
    refine x_aload_n (pc := 21) 0 dX1_singAll_21 rfl rfl ?_
    refine x_aload_n (pc := 22) 1 dX1_singAll_22 rfl rfl ?_
    refine x_iload_n (pc := 23) 3 dX1_singAll_23 rfl rfl ?_
    refine x_aload_n (pc := 24) 1 dX1_singAll_24 rfl rfl ?_
    refine x_iload_n (pc := 25) 3 dX1_singAll_25 rfl rfl ?_
    obtain ⟨x3, s2, hr, h⟩ := h
    refine x_callV (pc := 26) [(.int l3)] [(.int l3), (.ref v), (.ref 27)] dX1_singAll_26 ⟨⟨hX7_standing.1, hX7_standing.2.1, hX7_standing.2.2, by decide⟩, mX1_69, vX7_standing.1, vX7_standing.2⟩ (ci := 7) rfl (vl_is hv) rfl rfl (Nat.le_of_ble_eq_true rfl) hr ?_
    obtain ⟨x5, s4, hr, h⟩ := h
    refine x_callV (pc := 29) [(.ref v), (.int l3), (.int x3)] [] dX1_singAll_29 ⟨⟨hX1_sing.1, hX1_sing.2.1, hX1_sing.2.2, by decide⟩, mX1_72, vX1_sing.1, vX1_sing.2⟩ (ci := 1) rfl rfl rfl rfl (Nat.le_of_ble_eq_true rfl) hr ?_
    refine x_if_eq (pc := 32) 41 dX1_singAll_32 (by decide) (fun c6 => ?_) (fun c6 => ?_)
    · replace h := h.1 c6
      refine x_iinc (pc := 41) (1 : Int32) dX1_singAll_41 (by decide) rfl rfl (by decide +kernel) ?_
      refine x_goto (pc := 44) 13 dX1_singAll_44 (by decide) ?_
      exact h
    · replace h := h.2 c6
      refine x_iload_n (pc := 35) 2 dX1_singAll_35 rfl rfl ?_
      refine x_iconst (pc := 36) (1 : Int32) dX1_singAll_36 (by decide +kernel) ?_
      refine x_iload_n (pc := 37) 3 dX1_singAll_37 rfl rfl ?_
      refine x_ishl (pc := 38) dX1_singAll_38 ?_
      refine x_ior (pc := 39) dX1_singAll_39 ?_
      refine x_istore_n (pc := 40) 2 dX1_singAll_40 rfl (by decide) rfl ?_
      refine x_iinc (pc := 41) (1 : Int32) dX1_singAll_41 (by decide) rfl rfl (by decide +kernel) ?_
      refine x_goto (pc := 44) 13 dX1_singAll_44 (by decide) ?_
      exact h
theorem dX1_passHour_0 : decode cX1_passHour 0 = .ok (.aload_n 0, 1) := by decide +kernel
theorem dX1_passHour_1 : decode cX1_passHour 1 = .ok (.aload_n 1, 1) := by decide +kernel
theorem dX1_passHour_2 : decode cX1_passHour 2 = .ok (.invokevirtual 76, 3) := by decide +kernel
theorem dX1_passHour_5 : decode cX1_passHour 5 = .ok (.istore_n 2, 1) := by decide +kernel
theorem dX1_passHour_6 : decode cX1_passHour 6 = .ok (.iconst 0, 1) := by decide +kernel
theorem dX1_passHour_7 : decode cX1_passHour 7 = .ok (.istore_n 3, 1) := by decide +kernel
theorem dX1_passHour_8 : decode cX1_passHour 8 = .ok (.iload_n 3, 1) := by decide +kernel
theorem dX1_passHour_9 : decode cX1_passHour 9 = .ok (.aload_n 1, 1) := by decide +kernel
theorem dX1_passHour_10 : decode cX1_passHour 10 = .ok (.getfield 35, 3) := by decide +kernel
theorem dX1_passHour_13 : decode cX1_passHour 13 = .ok (.if_icmp .ge 55, 3) := by decide +kernel
theorem dX1_passHour_16 : decode cX1_passHour 16 = .ok (.aload_n 0, 1) := by decide +kernel
theorem dX1_passHour_17 : decode cX1_passHour 17 = .ok (.getfield 9, 3) := by decide +kernel
theorem dX1_passHour_20 : decode cX1_passHour 20 = .ok (.iload_n 3, 1) := by decide +kernel
theorem dX1_passHour_21 : decode cX1_passHour 21 = .ok (.iaload, 1) := by decide +kernel
theorem dX1_passHour_22 : decode cX1_passHour 22 = .ok (.bipush 12, 2) := by decide +kernel
theorem dX1_passHour_24 : decode cX1_passHour 24 = .ok (.if_icmp .ne 7, 3) := by decide +kernel
theorem dX1_passHour_27 : decode cX1_passHour 27 = .ok (.iconst (-1), 1) := by decide +kernel
theorem dX1_passHour_28 : decode cX1_passHour 28 = .ok (.goto 13, 3) := by decide +kernel
theorem dX1_passHour_31 : decode cX1_passHour 31 = .ok (.getstatic 80, 3) := by decide +kernel
theorem dX1_passHour_34 : decode cX1_passHour 34 = .ok (.aload_n 1, 1) := by decide +kernel
theorem dX1_passHour_35 : decode cX1_passHour 35 = .ok (.getfield 43, 3) := by decide +kernel
theorem dX1_passHour_38 : decode cX1_passHour 38 = .ok (.iload_n 3, 1) := by decide +kernel
theorem dX1_passHour_39 : decode cX1_passHour 39 = .ok (.iaload, 1) := by decide +kernel
theorem dX1_passHour_40 : decode cX1_passHour 40 = .ok (.iaload, 1) := by decide +kernel
theorem dX1_passHour_41 : decode cX1_passHour 41 = .ok (.istore 4, 2) := by decide +kernel
theorem dX1_passHour_43 : decode cX1_passHour 43 = .ok (.aload_n 1, 1) := by decide +kernel
theorem dX1_passHour_44 : decode cX1_passHour 44 = .ok (.getfield 83, 3) := by decide +kernel
theorem dX1_passHour_47 : decode cX1_passHour 47 = .ok (.iload_n 3, 1) := by decide +kernel
theorem dX1_passHour_48 : decode cX1_passHour 48 = .ok (.iconst 0, 1) := by decide +kernel
theorem dX1_passHour_49 : decode cX1_passHour 49 = .ok (.aload_n 1, 1) := by decide +kernel
theorem dX1_passHour_50 : decode cX1_passHour 50 = .ok (.getfield 83, 3) := by decide +kernel
theorem dX1_passHour_53 : decode cX1_passHour 53 = .ok (.iload_n 3, 1) := by decide +kernel
theorem dX1_passHour_54 : decode cX1_passHour 54 = .ok (.iaload, 1) := by decide +kernel
theorem dX1_passHour_55 : decode cX1_passHour 55 = .ok (.iload 4, 2) := by decide +kernel
theorem dX1_passHour_57 : decode cX1_passHour 57 = .ok (.iadd, 1) := by decide +kernel
theorem dX1_passHour_58 : decode cX1_passHour 58 = .ok (.invokestatic 86, 3) := by decide +kernel
theorem dX1_passHour_61 : decode cX1_passHour 61 = .ok (.iastore, 1) := by decide +kernel
theorem dX1_passHour_62 : decode cX1_passHour 62 = .ok (.iinc 3 1, 3) := by decide +kernel
theorem dX1_passHour_65 : decode cX1_passHour 65 = .ok (.goto (-57), 3) := by decide +kernel
theorem dX1_passHour_68 : decode cX1_passHour 68 = .ok (.aload_n 1, 1) := by decide +kernel
theorem dX1_passHour_69 : decode cX1_passHour 69 = .ok (.dup, 1) := by decide +kernel
theorem dX1_passHour_70 : decode cX1_passHour 70 = .ok (.getfield 92, 3) := by decide +kernel
theorem dX1_passHour_73 : decode cX1_passHour 73 = .ok (.iconst 1, 1) := by decide +kernel
theorem dX1_passHour_74 : decode cX1_passHour 74 = .ok (.iadd, 1) := by decide +kernel
theorem dX1_passHour_75 : decode cX1_passHour 75 = .ok (.putfield 92, 3) := by decide +kernel
theorem dX1_passHour_78 : decode cX1_passHour 78 = .ok (.iload_n 2, 1) := by decide +kernel
theorem dX1_passHour_79 : decode cX1_passHour 79 = .ok (.ireturn, 1) := by decide +kernel
def R_X1_passHour (v : Nat) (σ : kS) (x : Int32) (τ : kS) : Prop := Run SX jX1_passHour [(.ref 27), (.ref v)] σ (some (.int x)) τ
def E_X1_passHour_8 (v : Nat) (l2 : Int32) (l3 : Int32) (σ : kS) (x : Int32) (τ : kS) : Prop := Ex SX jX1_passHour 8 [some (.ref 27), some (.ref v), some (.int l2), some (.int l3), none] [] σ (some (.int x)) τ
def E_X1_passHour_41 (v : Nat) (l2 : Int32) (l3 : Int32) (y0 : Int32) (σ : kS) (x : Int32) (τ : kS) : Prop := Ex SX jX1_passHour 41 [some (.ref 27), some (.ref v), some (.int l2), some (.int l3), none] [(.int y0)] σ (some (.int x)) τ
set_option maxRecDepth 20000 in
theorem t_X1_passHour {v : Nat} {σ : kS} {x : Int32} {τ : kS} (hv : k_vly v = true) (h : ∃ (x2 : Int32) (s1 : kS), R_X1_singAll v σ x2 s1 ∧ (E_X1_passHour_8 v x2 (0 : Int32) s1 x τ)) : R_X1_passHour v σ x τ := by
  refine x_run [some (.ref 27), some (.ref v), none, none, none] (by decide +kernel) rfl (Nat.le_of_ble_eq_true rfl) ?_
  refine x_aload_n (pc := 0) 0 dX1_passHour_0 rfl rfl ?_
  refine x_aload_n (pc := 1) 1 dX1_passHour_1 rfl rfl ?_
  obtain ⟨x2, s1, hr, h⟩ := h
  refine x_callV (pc := 2) [(.ref v)] [] dX1_passHour_2 ⟨⟨hX1_singAll.1, hX1_singAll.2.1, hX1_singAll.2.2, by decide⟩, mX1_76, vX1_singAll.1, vX1_singAll.2⟩ (ci := 1) rfl rfl rfl rfl (Nat.le_of_ble_eq_true rfl) hr ?_
  refine x_istore_n (pc := 5) 2 dX1_passHour_5 rfl (by decide) rfl ?_
  refine x_iconst (pc := 6) (0 : Int32) dX1_passHour_6 (by decide +kernel) ?_
  refine x_istore_n (pc := 7) 3 dX1_passHour_7 rfl (by decide) rfl ?_
  exact h
set_option maxRecDepth 20000 in
theorem t_X1_passHour_8 {v : Nat} {l2 : Int32} {l3 : Int32} {σ : kS} {x : Int32} {τ : kS} (hv : k_vly v = true) (h : ((σ.1 v 2) ≤ l3 → x = l2 ∧ τ = (k_si σ v 3 ((σ.1 v 3) + (1 : Int32)))) ∧ (¬ (σ.1 v 2) ≤ l3 → vp_in l3 5 ∧ ((¬ (σ.1 28 l3.toNatClampNeg) = (12 : Int32) → vp_in l3 5 ∧ (vp_in (σ.1 (v + 3) l3.toNatClampNeg) 6 ∧ (E_X1_passHour_41 v l2 l3 (k_tEF (σ.1 (v + 3) l3.toNatClampNeg).toNatClampNeg) σ x τ))) ∧ ((σ.1 28 l3.toNatClampNeg) = (12 : Int32) → E_X1_passHour_41 v l2 l3 (-1 : Int32) σ x τ)))) : E_X1_passHour_8 v l2 l3 σ x τ := by
  unfold E_X1_passHour_8
  refine x_iload_n (pc := 8) 3 dX1_passHour_8 rfl rfl ?_
  refine x_aload_n (pc := 9) 1 dX1_passHour_9 rfl rfl ?_
  refine x_getI (pc := 10) dX1_passHour_10 fX1_35 (vl_is hv) (vl_i2 hv) ?_
  refine x_icmp_ge (pc := 13) 68 dX1_passHour_13 (by decide) (fun c1 => ?_) (fun c1 => ?_)
  · replace h := h.1 c1
    refine x_aload_n (pc := 68) 1 dX1_passHour_68 rfl rfl ?_
    refine x_dup (pc := 69) dX1_passHour_69 rfl ?_
    refine x_getI (pc := 70) dX1_passHour_70 fX1_92 (vl_is hv) (vl_i3 hv) ?_
    refine x_iconst (pc := 73) (1 : Int32) dX1_passHour_73 (by decide +kernel) ?_
    refine x_iadd (pc := 74) dX1_passHour_74 ?_
    refine x_putI (pc := 75) dX1_passHour_75 pX1_92 (vl_is hv) (vl_i3 hv) ?_
    refine x_iload_n (pc := 78) 2 dX1_passHour_78 rfl rfl ?_
    exact x_ireturn2 (pc := 79) dX1_passHour_79 rfl h.1 h.2
  · replace h := h.2 c1
    refine x_aload_n (pc := 16) 0 dX1_passHour_16 rfl rfl ?_
    refine x_getR (pc := 17) dX1_passHour_17 fX1_9 rfl rfl ?_
    refine x_iload_n (pc := 20) 3 dX1_passHour_20 rfl rfl ?_
    obtain ⟨g2, h⟩ := h
    refine x_iaload (pc := 21) (n := 5) dX1_passHour_21 rfl g2 ?_
    refine x_bipush (pc := 22) (12 : Int32) dX1_passHour_22 (by decide +kernel) ?_
    refine x_icmp_ne (pc := 24) 31 dX1_passHour_24 (by decide) (fun c3 => ?_) (fun c3 => ?_)
    · replace h := h.1 c3
      refine x_getSN (pc := 31) dX1_passHour_31 (List.mem_of_getElem? (i := 1) rfl) (List.mem_of_getElem? (i := 0) rfl) ?_
      refine x_aload_n (pc := 34) 1 dX1_passHour_34 rfl rfl ?_
      refine x_getR (pc := 35) dX1_passHour_35 fX1_43 (vl_is hv) (vl_r6 hv) ?_
      refine x_iload_n (pc := 38) 3 dX1_passHour_38 rfl rfl ?_
      obtain ⟨g4, h⟩ := h
      refine x_iaload (pc := 39) (n := 5) dX1_passHour_39 (vl_a6 hv) g4 ?_
      obtain ⟨g5, h⟩ := h
      refine x_ialoadS (pc := 40) dX1_passHour_40 (List.mem_of_getElem? (i := 1) rfl) g5 ?_
      exact h
    · replace h := h.2 c3
      refine x_iconst (pc := 27) (-1 : Int32) dX1_passHour_27 (by decide +kernel) ?_
      refine x_goto (pc := 28) 41 dX1_passHour_28 (by decide) ?_
      exact h
set_option maxRecDepth 20000 in
theorem t_X1_passHour_41 {v : Nat} {l2 : Int32} {l3 : Int32} {y0 : Int32} {σ : kS} {x : Int32} {τ : kS} (hv : k_vly v = true) (h : vp_in l3 5 ∧ (vp_in l3 5 ∧ (E_X1_passHour_8 v l2 (l3 + (1 : Int32)) (k_si σ (v + 7) l3.toNatClampNeg (mx (0 : Int32) ((σ.1 (v + 7) l3.toNatClampNeg) + y0))) x τ))) : E_X1_passHour_41 v l2 l3 y0 σ x τ := by
  unfold E_X1_passHour_41
  refine x_istore (pc := 41) dX1_passHour_41 (by decide) rfl ?_
  refine x_aload_n (pc := 43) 1 dX1_passHour_43 rfl rfl ?_
  refine x_getR (pc := 44) dX1_passHour_44 fX1_83 (vl_is hv) (vl_r10 hv) ?_
  refine x_iload_n (pc := 47) 3 dX1_passHour_47 rfl rfl ?_
  refine x_iconst (pc := 48) (0 : Int32) dX1_passHour_48 (by decide +kernel) ?_
  refine x_aload_n (pc := 49) 1 dX1_passHour_49 rfl rfl ?_
  refine x_getR (pc := 50) dX1_passHour_50 fX1_83 (vl_is hv) (vl_r10 hv) ?_
  refine x_iload_n (pc := 53) 3 dX1_passHour_53 rfl rfl ?_
  obtain ⟨g1, h⟩ := h
  refine x_iaload (pc := 54) (n := 5) dX1_passHour_54 (vl_a10 hv) g1 ?_
  refine x_iload (pc := 55) dX1_passHour_55 rfl ?_
  refine x_iadd (pc := 57) dX1_passHour_57 ?_
  refine x_callS (pc := 58) [(.int (0 : Int32)), (.int ((σ.1 (v + 7) l3.toNatClampNeg) + y0))] [(.int l3), (.ref (v + 7))] dX1_passHour_58 ⟨⟨hJ9_max_7cf53.1, hJ9_max_7cf53.2.1, hJ9_max_7cf53.2.2, by decide⟩, mX1_86, sJ9_max_7cf53⟩ rfl rfl (Nat.le_of_ble_eq_true rfl) (i_max) ?_
  obtain ⟨g2, h⟩ := h
  refine x_iastore (pc := 61) (n := 5) dX1_passHour_61 (vl_a10 hv) g2 ?_
  refine x_iinc (pc := 62) (1 : Int32) dX1_passHour_62 (by decide) rfl rfl (by decide +kernel) ?_
  refine x_goto (pc := 65) 8 dX1_passHour_65 (by decide) ?_
  exact x_mask [true, true, true, true, false] h
theorem dX1_effortOf_0 : decode cX1_effortOf 0 = .ok (.iconst 0, 1) := by decide +kernel
theorem dX1_effortOf_1 : decode cX1_effortOf 1 = .ok (.istore_n 3, 1) := by decide +kernel
theorem dX1_effortOf_2 : decode cX1_effortOf 2 = .ok (.iconst 0, 1) := by decide +kernel
theorem dX1_effortOf_3 : decode cX1_effortOf 3 = .ok (.istore 4, 2) := by decide +kernel
theorem dX1_effortOf_5 : decode cX1_effortOf 5 = .ok (.iload 4, 2) := by decide +kernel
theorem dX1_effortOf_7 : decode cX1_effortOf 7 = .ok (.aload_n 1, 1) := by decide +kernel
theorem dX1_effortOf_8 : decode cX1_effortOf 8 = .ok (.getfield 35, 3) := by decide +kernel
theorem dX1_effortOf_11 : decode cX1_effortOf 11 = .ok (.if_icmp .ge 44, 3) := by decide +kernel
theorem dX1_effortOf_14 : decode cX1_effortOf 14 = .ok (.iload_n 2, 1) := by decide +kernel
theorem dX1_effortOf_15 : decode cX1_effortOf 15 = .ok (.iload 4, 2) := by decide +kernel
theorem dX1_effortOf_17 : decode cX1_effortOf 17 = .ok (.invokestatic 39, 3) := by decide +kernel
theorem dX1_effortOf_20 : decode cX1_effortOf 20 = .ok (.ifCond .eq 29, 3) := by decide +kernel
theorem dX1_effortOf_23 : decode cX1_effortOf 23 = .ok (.aload_n 0, 1) := by decide +kernel
theorem dX1_effortOf_24 : decode cX1_effortOf 24 = .ok (.getfield 9, 3) := by decide +kernel
theorem dX1_effortOf_27 : decode cX1_effortOf 27 = .ok (.iload 4, 2) := by decide +kernel
theorem dX1_effortOf_29 : decode cX1_effortOf 29 = .ok (.iaload, 1) := by decide +kernel
theorem dX1_effortOf_30 : decode cX1_effortOf 30 = .ok (.bipush 12, 2) := by decide +kernel
theorem dX1_effortOf_32 : decode cX1_effortOf 32 = .ok (.if_icmp .eq 17, 3) := by decide +kernel
theorem dX1_effortOf_35 : decode cX1_effortOf 35 = .ok (.iload_n 3, 1) := by decide +kernel
theorem dX1_effortOf_36 : decode cX1_effortOf 36 = .ok (.getstatic 80, 3) := by decide +kernel
theorem dX1_effortOf_39 : decode cX1_effortOf 39 = .ok (.aload_n 1, 1) := by decide +kernel
theorem dX1_effortOf_40 : decode cX1_effortOf 40 = .ok (.getfield 43, 3) := by decide +kernel
theorem dX1_effortOf_43 : decode cX1_effortOf 43 = .ok (.iload 4, 2) := by decide +kernel
theorem dX1_effortOf_45 : decode cX1_effortOf 45 = .ok (.iaload, 1) := by decide +kernel
theorem dX1_effortOf_46 : decode cX1_effortOf 46 = .ok (.iaload, 1) := by decide +kernel
theorem dX1_effortOf_47 : decode cX1_effortOf 47 = .ok (.iadd, 1) := by decide +kernel
theorem dX1_effortOf_48 : decode cX1_effortOf 48 = .ok (.istore_n 3, 1) := by decide +kernel
theorem dX1_effortOf_49 : decode cX1_effortOf 49 = .ok (.iinc 4 1, 3) := by decide +kernel
theorem dX1_effortOf_52 : decode cX1_effortOf 52 = .ok (.goto (-47), 3) := by decide +kernel
theorem dX1_effortOf_55 : decode cX1_effortOf 55 = .ok (.iload_n 3, 1) := by decide +kernel
theorem dX1_effortOf_56 : decode cX1_effortOf 56 = .ok (.ireturn, 1) := by decide +kernel
def R_X1_effortOf (v : Nat) (a2 : Int32) (σ : kS) (x : Int32) (τ : kS) : Prop := Run SX jX1_effortOf [(.ref 27), (.ref v), (.int a2)] σ (some (.int x)) τ
def E_X1_effortOf_5 (v : Nat) (l2 : Int32) (l3 : Int32) (l4 : Int32) (σ : kS) (x : Int32) (τ : kS) : Prop := Ex SX jX1_effortOf 5 [some (.ref 27), some (.ref v), some (.int l2), some (.int l3), some (.int l4)] [] σ (some (.int x)) τ
set_option maxRecDepth 20000 in
theorem t_X1_effortOf {v : Nat} {a2 : Int32} {σ : kS} {x : Int32} {τ : kS} (hv : k_vly v = true) (h : E_X1_effortOf_5 v a2 (0 : Int32) (0 : Int32) σ x τ) : R_X1_effortOf v a2 σ x τ := by
  refine x_run [some (.ref 27), some (.ref v), some (.int a2), none, none] (by decide +kernel) rfl (Nat.le_of_ble_eq_true rfl) ?_
  refine x_iconst (pc := 0) (0 : Int32) dX1_effortOf_0 (by decide +kernel) ?_
  refine x_istore_n (pc := 1) 3 dX1_effortOf_1 rfl (by decide) rfl ?_
  refine x_iconst (pc := 2) (0 : Int32) dX1_effortOf_2 (by decide +kernel) ?_
  refine x_istore (pc := 3) dX1_effortOf_3 (by decide) rfl ?_
  exact h
set_option maxRecDepth 20000 in
theorem t_X1_effortOf_5 {v : Nat} {l2 : Int32} {l3 : Int32} {l4 : Int32} {σ : kS} {x : Int32} {τ : kS} (hv : k_vly v = true) (h : ((σ.1 v 2) ≤ l4 → x = l3 ∧ τ = σ) ∧ (¬ (σ.1 v 2) ≤ l4 → (¬ (hs l2 l4) → E_X1_effortOf_5 v l2 l3 (l4 + (1 : Int32)) σ x τ) ∧ ((hs l2 l4) → vp_in l4 5 ∧ (((σ.1 28 l4.toNatClampNeg) = (12 : Int32) → E_X1_effortOf_5 v l2 l3 (l4 + (1 : Int32)) σ x τ) ∧ (¬ (σ.1 28 l4.toNatClampNeg) = (12 : Int32) → vp_in l4 5 ∧ (vp_in (σ.1 (v + 3) l4.toNatClampNeg) 6 ∧ (E_X1_effortOf_5 v l2 (l3 + (k_tEF (σ.1 (v + 3) l4.toNatClampNeg).toNatClampNeg)) (l4 + (1 : Int32)) σ x τ))))))) : E_X1_effortOf_5 v l2 l3 l4 σ x τ := by
  unfold E_X1_effortOf_5
  refine x_iload (pc := 5) dX1_effortOf_5 rfl ?_
  refine x_aload_n (pc := 7) 1 dX1_effortOf_7 rfl rfl ?_
  refine x_getI (pc := 8) dX1_effortOf_8 fX1_35 (vl_is hv) (vl_i2 hv) ?_
  refine x_icmp_ge (pc := 11) 55 dX1_effortOf_11 (by decide) (fun c1 => ?_) (fun c1 => ?_)
  · replace h := h.1 c1
    refine x_iload_n (pc := 55) 3 dX1_effortOf_55 rfl rfl ?_
    exact x_ireturn2 (pc := 56) dX1_effortOf_56 rfl h.1 h.2
  · replace h := h.2 c1
    refine x_iload_n (pc := 14) 2 dX1_effortOf_14 rfl rfl ?_
    refine x_iload (pc := 15) dX1_effortOf_15 rfl ?_
    refine x_callN (pc := 17) [(.int l2), (.int l4)] [] dX1_effortOf_17 ⟨⟨hX8_has.1, hX8_has.2.1, hX8_has.2.2, by decide⟩, ⟨_, List.mem_of_getElem? (i := 1) rfl⟩, sX8_has⟩ rfl rfl (Nat.le_of_ble_eq_true rfl) (i_X8_has) ?_
    refine x_bif_eq (pc := 20) 49 dX1_effortOf_20 (by decide) (fun c2 => ?_) (fun c2 => ?_)
    · replace h := h.1 c2
      refine x_iinc (pc := 49) (1 : Int32) dX1_effortOf_49 (by decide) rfl rfl (by decide +kernel) ?_
      refine x_goto (pc := 52) 5 dX1_effortOf_52 (by decide) ?_
      exact h
    · replace h := h.2 c2
      refine x_aload_n (pc := 23) 0 dX1_effortOf_23 rfl rfl ?_
      refine x_getR (pc := 24) dX1_effortOf_24 fX1_9 rfl rfl ?_
      refine x_iload (pc := 27) dX1_effortOf_27 rfl ?_
      obtain ⟨g3, h⟩ := h
      refine x_iaload (pc := 29) (n := 5) dX1_effortOf_29 rfl g3 ?_
      refine x_bipush (pc := 30) (12 : Int32) dX1_effortOf_30 (by decide +kernel) ?_
      refine x_icmp_eq (pc := 32) 49 dX1_effortOf_32 (by decide) (fun c4 => ?_) (fun c4 => ?_)
      · replace h := h.1 c4
        refine x_iinc (pc := 49) (1 : Int32) dX1_effortOf_49 (by decide) rfl rfl (by decide +kernel) ?_
        refine x_goto (pc := 52) 5 dX1_effortOf_52 (by decide) ?_
        exact h
      · replace h := h.2 c4
        refine x_iload_n (pc := 35) 3 dX1_effortOf_35 rfl rfl ?_
        refine x_getSN (pc := 36) dX1_effortOf_36 (List.mem_of_getElem? (i := 1) rfl) (List.mem_of_getElem? (i := 0) rfl) ?_
        refine x_aload_n (pc := 39) 1 dX1_effortOf_39 rfl rfl ?_
        refine x_getR (pc := 40) dX1_effortOf_40 fX1_43 (vl_is hv) (vl_r6 hv) ?_
        refine x_iload (pc := 43) dX1_effortOf_43 rfl ?_
        obtain ⟨g5, h⟩ := h
        refine x_iaload (pc := 45) (n := 5) dX1_effortOf_45 (vl_a6 hv) g5 ?_
        obtain ⟨g6, h⟩ := h
        refine x_ialoadS (pc := 46) dX1_effortOf_46 (List.mem_of_getElem? (i := 1) rfl) g6 ?_
        refine x_iadd (pc := 47) dX1_effortOf_47 ?_
        refine x_istore_n (pc := 48) 3 dX1_effortOf_48 rfl (by decide) rfl ?_
        refine x_iinc (pc := 49) (1 : Int32) dX1_effortOf_49 (by decide) rfl rfl (by decide +kernel) ?_
        refine x_goto (pc := 52) 5 dX1_effortOf_52 (by decide) ?_
        exact h
theorem dX1_alone_0 : decode cX1_alone 0 = .ok (.iload_n 1, 1) := by decide +kernel
theorem dX1_alone_1 : decode cX1_alone 1 = .ok (.aload_n 0, 1) := by decide +kernel
theorem dX1_alone_2 : decode cX1_alone 2 = .ok (.getfield 18, 3) := by decide +kernel
theorem dX1_alone_5 : decode cX1_alone 5 = .ok (.iload_n 3, 1) := by decide +kernel
theorem dX1_alone_6 : decode cX1_alone 6 = .ok (.invokevirtual 46, 3) := by decide +kernel
theorem dX1_alone_9 : decode cX1_alone 9 = .ok (.aload_n 0, 1) := by decide +kernel
theorem dX1_alone_10 : decode cX1_alone 10 = .ok (.getfield 18, 3) := by decide +kernel
theorem dX1_alone_13 : decode cX1_alone 13 = .ok (.iload_n 3, 1) := by decide +kernel
theorem dX1_alone_14 : decode cX1_alone 14 = .ok (.invokevirtual 31, 3) := by decide +kernel
theorem dX1_alone_17 : decode cX1_alone 17 = .ok (.iload_n 2, 1) := by decide +kernel
theorem dX1_alone_18 : decode cX1_alone 18 = .ok (.iand, 1) := by decide +kernel
theorem dX1_alone_19 : decode cX1_alone 19 = .ok (.invokestatic 52, 3) := by decide +kernel
theorem dX1_alone_22 : decode cX1_alone 22 = .ok (.ireturn, 1) := by decide +kernel
def R_X1_alone (a1 : Int32) (a2 : Int32) (a3 : Int32) (σ : kS) (x : Int32) (τ : kS) : Prop := Run SX jX1_alone [(.ref 27), (.int a1), (.int a2), (.int a3)] σ (some (.int x)) τ
set_option maxRecDepth 20000 in
theorem t_X1_alone {a1 : Int32} {a2 : Int32} {a3 : Int32} {σ : kS} {x : Int32} {τ : kS}  (h : ∃ (x2 : Int32) (s1 : kS), R_X2_rootOf a3 σ x2 s1 ∧ (∃ (x4 : Int32) (s3 : kS), R_X2_missingOf a3 s1 x4 s3 ∧ (∃ (x6 : Int32) (s5 : kS), R_X1_choose a1 x2 (x4 &&& a2) s3 x6 s5 ∧ (x = x6 ∧ τ = s5)))) : R_X1_alone a1 a2 a3 σ x τ := by
  refine x_run [some (.ref 27), some (.int a1), some (.int a2), some (.int a3)] (by decide +kernel) rfl (Nat.le_of_ble_eq_true rfl) ?_
  refine x_iload_n (pc := 0) 1 dX1_alone_0 rfl rfl ?_
  refine x_aload_n (pc := 1) 0 dX1_alone_1 rfl rfl ?_
  refine x_getR (pc := 2) dX1_alone_2 fX1_18 rfl rfl ?_
  refine x_iload_n (pc := 5) 3 dX1_alone_5 rfl rfl ?_
  obtain ⟨x2, s1, hr, h⟩ := h
  refine x_callV (pc := 6) [(.int a3)] [(.int a1)] dX1_alone_6 ⟨⟨hX2_rootOf.1, hX2_rootOf.2.1, hX2_rootOf.2.2, by decide⟩, mX1_46, vX2_rootOf.1, vX2_rootOf.2⟩ (ci := 2) rfl rfl rfl rfl (Nat.le_of_ble_eq_true rfl) hr ?_
  refine x_aload_n (pc := 9) 0 dX1_alone_9 rfl rfl ?_
  refine x_getR (pc := 10) dX1_alone_10 fX1_18 rfl rfl ?_
  refine x_iload_n (pc := 13) 3 dX1_alone_13 rfl rfl ?_
  obtain ⟨x4, s3, hr, h⟩ := h
  refine x_callV (pc := 14) [(.int a3)] [(.int x2), (.int a1)] dX1_alone_14 ⟨⟨hX2_missingOf.1, hX2_missingOf.2.1, hX2_missingOf.2.2, by decide⟩, mX1_31, vX2_missingOf.1, vX2_missingOf.2⟩ (ci := 2) rfl rfl rfl rfl (Nat.le_of_ble_eq_true rfl) hr ?_
  refine x_iload_n (pc := 17) 2 dX1_alone_17 rfl rfl ?_
  refine x_iand (pc := 18) dX1_alone_18 ?_
  obtain ⟨x6, s5, hr, h⟩ := h
  refine x_callS (pc := 19) [(.int a1), (.int x2), (.int (x4 &&& a2))] [] dX1_alone_19 ⟨⟨hX1_choose.1, hX1_choose.2.1, hX1_choose.2.2, by decide⟩, mX1_52, sX1_choose⟩ rfl rfl (Nat.le_of_ble_eq_true rfl) hr ?_
  exact x_ireturn2 (pc := 22) dX1_alone_22 rfl h.1 h.2
theorem dJ6_bitCount_0f7a4_0 : decode cJ6_bitCount_0f7a4 0 = .ok (.iload_n 0, 1) := by decide +kernel
theorem dJ6_bitCount_0f7a4_1 : decode cJ6_bitCount_0f7a4 1 = .ok (.iload_n 0, 1) := by decide +kernel
theorem dJ6_bitCount_0f7a4_2 : decode cJ6_bitCount_0f7a4 2 = .ok (.iconst 1, 1) := by decide +kernel
theorem dJ6_bitCount_0f7a4_3 : decode cJ6_bitCount_0f7a4 3 = .ok (.iushr, 1) := by decide +kernel
theorem dJ6_bitCount_0f7a4_4 : decode cJ6_bitCount_0f7a4 4 = .ok (.ldc_w 265, 3) := by decide +kernel
theorem dJ6_bitCount_0f7a4_7 : decode cJ6_bitCount_0f7a4 7 = .ok (.iand, 1) := by decide +kernel
theorem dJ6_bitCount_0f7a4_8 : decode cJ6_bitCount_0f7a4 8 = .ok (.isub, 1) := by decide +kernel
theorem dJ6_bitCount_0f7a4_9 : decode cJ6_bitCount_0f7a4 9 = .ok (.istore_n 0, 1) := by decide +kernel
theorem dJ6_bitCount_0f7a4_10 : decode cJ6_bitCount_0f7a4 10 = .ok (.iload_n 0, 1) := by decide +kernel
theorem dJ6_bitCount_0f7a4_11 : decode cJ6_bitCount_0f7a4 11 = .ok (.ldc_w 266, 3) := by decide +kernel
theorem dJ6_bitCount_0f7a4_14 : decode cJ6_bitCount_0f7a4 14 = .ok (.iand, 1) := by decide +kernel
theorem dJ6_bitCount_0f7a4_15 : decode cJ6_bitCount_0f7a4 15 = .ok (.iload_n 0, 1) := by decide +kernel
theorem dJ6_bitCount_0f7a4_16 : decode cJ6_bitCount_0f7a4 16 = .ok (.iconst 2, 1) := by decide +kernel
theorem dJ6_bitCount_0f7a4_17 : decode cJ6_bitCount_0f7a4 17 = .ok (.iushr, 1) := by decide +kernel
theorem dJ6_bitCount_0f7a4_18 : decode cJ6_bitCount_0f7a4 18 = .ok (.ldc_w 266, 3) := by decide +kernel
theorem dJ6_bitCount_0f7a4_21 : decode cJ6_bitCount_0f7a4 21 = .ok (.iand, 1) := by decide +kernel
theorem dJ6_bitCount_0f7a4_22 : decode cJ6_bitCount_0f7a4 22 = .ok (.iadd, 1) := by decide +kernel
theorem dJ6_bitCount_0f7a4_23 : decode cJ6_bitCount_0f7a4 23 = .ok (.istore_n 0, 1) := by decide +kernel
theorem dJ6_bitCount_0f7a4_24 : decode cJ6_bitCount_0f7a4 24 = .ok (.iload_n 0, 1) := by decide +kernel
theorem dJ6_bitCount_0f7a4_25 : decode cJ6_bitCount_0f7a4 25 = .ok (.iload_n 0, 1) := by decide +kernel
theorem dJ6_bitCount_0f7a4_26 : decode cJ6_bitCount_0f7a4 26 = .ok (.iconst 4, 1) := by decide +kernel
theorem dJ6_bitCount_0f7a4_27 : decode cJ6_bitCount_0f7a4 27 = .ok (.iushr, 1) := by decide +kernel
theorem dJ6_bitCount_0f7a4_28 : decode cJ6_bitCount_0f7a4 28 = .ok (.iadd, 1) := by decide +kernel
theorem dJ6_bitCount_0f7a4_29 : decode cJ6_bitCount_0f7a4 29 = .ok (.ldc_w 267, 3) := by decide +kernel
theorem dJ6_bitCount_0f7a4_32 : decode cJ6_bitCount_0f7a4 32 = .ok (.iand, 1) := by decide +kernel
theorem dJ6_bitCount_0f7a4_33 : decode cJ6_bitCount_0f7a4 33 = .ok (.istore_n 0, 1) := by decide +kernel
theorem dJ6_bitCount_0f7a4_34 : decode cJ6_bitCount_0f7a4 34 = .ok (.iload_n 0, 1) := by decide +kernel
theorem dJ6_bitCount_0f7a4_35 : decode cJ6_bitCount_0f7a4 35 = .ok (.iload_n 0, 1) := by decide +kernel
theorem dJ6_bitCount_0f7a4_36 : decode cJ6_bitCount_0f7a4 36 = .ok (.bipush 8, 2) := by decide +kernel
theorem dJ6_bitCount_0f7a4_38 : decode cJ6_bitCount_0f7a4 38 = .ok (.iushr, 1) := by decide +kernel
theorem dJ6_bitCount_0f7a4_39 : decode cJ6_bitCount_0f7a4 39 = .ok (.iadd, 1) := by decide +kernel
theorem dJ6_bitCount_0f7a4_40 : decode cJ6_bitCount_0f7a4 40 = .ok (.istore_n 0, 1) := by decide +kernel
theorem dJ6_bitCount_0f7a4_41 : decode cJ6_bitCount_0f7a4 41 = .ok (.iload_n 0, 1) := by decide +kernel
theorem dJ6_bitCount_0f7a4_42 : decode cJ6_bitCount_0f7a4 42 = .ok (.iload_n 0, 1) := by decide +kernel
theorem dJ6_bitCount_0f7a4_43 : decode cJ6_bitCount_0f7a4 43 = .ok (.bipush 16, 2) := by decide +kernel
theorem dJ6_bitCount_0f7a4_45 : decode cJ6_bitCount_0f7a4 45 = .ok (.iushr, 1) := by decide +kernel
theorem dJ6_bitCount_0f7a4_46 : decode cJ6_bitCount_0f7a4 46 = .ok (.iadd, 1) := by decide +kernel
theorem dJ6_bitCount_0f7a4_47 : decode cJ6_bitCount_0f7a4 47 = .ok (.istore_n 0, 1) := by decide +kernel
theorem dJ6_bitCount_0f7a4_48 : decode cJ6_bitCount_0f7a4 48 = .ok (.iload_n 0, 1) := by decide +kernel
theorem dJ6_bitCount_0f7a4_49 : decode cJ6_bitCount_0f7a4 49 = .ok (.bipush 63, 2) := by decide +kernel
theorem dJ6_bitCount_0f7a4_51 : decode cJ6_bitCount_0f7a4 51 = .ok (.iand, 1) := by decide +kernel
theorem dJ6_bitCount_0f7a4_52 : decode cJ6_bitCount_0f7a4 52 = .ok (.ireturn, 1) := by decide +kernel
def R_J6_bitCount_0f7a4 (a0 : Int32) (σ : kS) (x : Int32) (τ : kS) : Prop := Run SX jJ6_bitCount_0f7a4 [(.int a0)] σ (some (.int x)) τ
set_option maxRecDepth 20000 in
theorem t_J6_bitCount_0f7a4 {a0 : Int32} {σ : kS} {x : Int32} {τ : kS}  (h : x = ((((((((a0 - ((((a0).toUInt32 >>> (((1 : Int32)).toUInt32 &&& Int32.toUInt32 31)).toInt32) &&& (1431655765 : Int32))) &&& (858993459 : Int32)) + (((((a0 - ((((a0).toUInt32 >>> (((1 : Int32)).toUInt32 &&& Int32.toUInt32 31)).toInt32) &&& (1431655765 : Int32)))).toUInt32 >>> (((2 : Int32)).toUInt32 &&& Int32.toUInt32 31)).toInt32) &&& (858993459 : Int32))) + ((((((a0 - ((((a0).toUInt32 >>> (((1 : Int32)).toUInt32 &&& Int32.toUInt32 31)).toInt32) &&& (1431655765 : Int32))) &&& (858993459 : Int32)) + (((((a0 - ((((a0).toUInt32 >>> (((1 : Int32)).toUInt32 &&& Int32.toUInt32 31)).toInt32) &&& (1431655765 : Int32)))).toUInt32 >>> (((2 : Int32)).toUInt32 &&& Int32.toUInt32 31)).toInt32) &&& (858993459 : Int32)))).toUInt32 >>> (((4 : Int32)).toUInt32 &&& Int32.toUInt32 31)).toInt32)) &&& (252645135 : Int32)) + ((((((((a0 - ((((a0).toUInt32 >>> (((1 : Int32)).toUInt32 &&& Int32.toUInt32 31)).toInt32) &&& (1431655765 : Int32))) &&& (858993459 : Int32)) + (((((a0 - ((((a0).toUInt32 >>> (((1 : Int32)).toUInt32 &&& Int32.toUInt32 31)).toInt32) &&& (1431655765 : Int32)))).toUInt32 >>> (((2 : Int32)).toUInt32 &&& Int32.toUInt32 31)).toInt32) &&& (858993459 : Int32))) + ((((((a0 - ((((a0).toUInt32 >>> (((1 : Int32)).toUInt32 &&& Int32.toUInt32 31)).toInt32) &&& (1431655765 : Int32))) &&& (858993459 : Int32)) + (((((a0 - ((((a0).toUInt32 >>> (((1 : Int32)).toUInt32 &&& Int32.toUInt32 31)).toInt32) &&& (1431655765 : Int32)))).toUInt32 >>> (((2 : Int32)).toUInt32 &&& Int32.toUInt32 31)).toInt32) &&& (858993459 : Int32)))).toUInt32 >>> (((4 : Int32)).toUInt32 &&& Int32.toUInt32 31)).toInt32)) &&& (252645135 : Int32))).toUInt32 >>> (((8 : Int32)).toUInt32 &&& Int32.toUInt32 31)).toInt32)) + (((((((((a0 - ((((a0).toUInt32 >>> (((1 : Int32)).toUInt32 &&& Int32.toUInt32 31)).toInt32) &&& (1431655765 : Int32))) &&& (858993459 : Int32)) + (((((a0 - ((((a0).toUInt32 >>> (((1 : Int32)).toUInt32 &&& Int32.toUInt32 31)).toInt32) &&& (1431655765 : Int32)))).toUInt32 >>> (((2 : Int32)).toUInt32 &&& Int32.toUInt32 31)).toInt32) &&& (858993459 : Int32))) + ((((((a0 - ((((a0).toUInt32 >>> (((1 : Int32)).toUInt32 &&& Int32.toUInt32 31)).toInt32) &&& (1431655765 : Int32))) &&& (858993459 : Int32)) + (((((a0 - ((((a0).toUInt32 >>> (((1 : Int32)).toUInt32 &&& Int32.toUInt32 31)).toInt32) &&& (1431655765 : Int32)))).toUInt32 >>> (((2 : Int32)).toUInt32 &&& Int32.toUInt32 31)).toInt32) &&& (858993459 : Int32)))).toUInt32 >>> (((4 : Int32)).toUInt32 &&& Int32.toUInt32 31)).toInt32)) &&& (252645135 : Int32)) + ((((((((a0 - ((((a0).toUInt32 >>> (((1 : Int32)).toUInt32 &&& Int32.toUInt32 31)).toInt32) &&& (1431655765 : Int32))) &&& (858993459 : Int32)) + (((((a0 - ((((a0).toUInt32 >>> (((1 : Int32)).toUInt32 &&& Int32.toUInt32 31)).toInt32) &&& (1431655765 : Int32)))).toUInt32 >>> (((2 : Int32)).toUInt32 &&& Int32.toUInt32 31)).toInt32) &&& (858993459 : Int32))) + ((((((a0 - ((((a0).toUInt32 >>> (((1 : Int32)).toUInt32 &&& Int32.toUInt32 31)).toInt32) &&& (1431655765 : Int32))) &&& (858993459 : Int32)) + (((((a0 - ((((a0).toUInt32 >>> (((1 : Int32)).toUInt32 &&& Int32.toUInt32 31)).toInt32) &&& (1431655765 : Int32)))).toUInt32 >>> (((2 : Int32)).toUInt32 &&& Int32.toUInt32 31)).toInt32) &&& (858993459 : Int32)))).toUInt32 >>> (((4 : Int32)).toUInt32 &&& Int32.toUInt32 31)).toInt32)) &&& (252645135 : Int32))).toUInt32 >>> (((8 : Int32)).toUInt32 &&& Int32.toUInt32 31)).toInt32))).toUInt32 >>> (((16 : Int32)).toUInt32 &&& Int32.toUInt32 31)).toInt32)) &&& (63 : Int32)) ∧ τ = σ) : R_J6_bitCount_0f7a4 a0 σ x τ := by
  refine x_run [some (.int a0)] (by decide +kernel) rfl (Nat.le_of_ble_eq_true rfl) ?_
  refine x_iload_n (pc := 0) 0 dJ6_bitCount_0f7a4_0 rfl rfl ?_
  refine x_iload_n (pc := 1) 0 dJ6_bitCount_0f7a4_1 rfl rfl ?_
  refine x_iconst (pc := 2) (1 : Int32) dJ6_bitCount_0f7a4_2 (by decide +kernel) ?_
  refine x_iushr (pc := 3) dJ6_bitCount_0f7a4_3 ?_
  refine x_ldc_w (pc := 4) dJ6_bitCount_0f7a4_4 cJ6_265 ?_
  refine x_iand (pc := 7) dJ6_bitCount_0f7a4_7 ?_
  refine x_isub (pc := 8) dJ6_bitCount_0f7a4_8 ?_
  refine x_istore_n (pc := 9) 0 dJ6_bitCount_0f7a4_9 rfl (by decide) rfl ?_
  refine x_iload_n (pc := 10) 0 dJ6_bitCount_0f7a4_10 rfl rfl ?_
  refine x_ldc_w (pc := 11) dJ6_bitCount_0f7a4_11 cJ6_266 ?_
  refine x_iand (pc := 14) dJ6_bitCount_0f7a4_14 ?_
  refine x_iload_n (pc := 15) 0 dJ6_bitCount_0f7a4_15 rfl rfl ?_
  refine x_iconst (pc := 16) (2 : Int32) dJ6_bitCount_0f7a4_16 (by decide +kernel) ?_
  refine x_iushr (pc := 17) dJ6_bitCount_0f7a4_17 ?_
  refine x_ldc_w (pc := 18) dJ6_bitCount_0f7a4_18 cJ6_266 ?_
  refine x_iand (pc := 21) dJ6_bitCount_0f7a4_21 ?_
  refine x_iadd (pc := 22) dJ6_bitCount_0f7a4_22 ?_
  refine x_istore_n (pc := 23) 0 dJ6_bitCount_0f7a4_23 rfl (by decide) rfl ?_
  refine x_iload_n (pc := 24) 0 dJ6_bitCount_0f7a4_24 rfl rfl ?_
  refine x_iload_n (pc := 25) 0 dJ6_bitCount_0f7a4_25 rfl rfl ?_
  refine x_iconst (pc := 26) (4 : Int32) dJ6_bitCount_0f7a4_26 (by decide +kernel) ?_
  refine x_iushr (pc := 27) dJ6_bitCount_0f7a4_27 ?_
  refine x_iadd (pc := 28) dJ6_bitCount_0f7a4_28 ?_
  refine x_ldc_w (pc := 29) dJ6_bitCount_0f7a4_29 cJ6_267 ?_
  refine x_iand (pc := 32) dJ6_bitCount_0f7a4_32 ?_
  refine x_istore_n (pc := 33) 0 dJ6_bitCount_0f7a4_33 rfl (by decide) rfl ?_
  refine x_iload_n (pc := 34) 0 dJ6_bitCount_0f7a4_34 rfl rfl ?_
  refine x_iload_n (pc := 35) 0 dJ6_bitCount_0f7a4_35 rfl rfl ?_
  refine x_bipush (pc := 36) (8 : Int32) dJ6_bitCount_0f7a4_36 (by decide +kernel) ?_
  refine x_iushr (pc := 38) dJ6_bitCount_0f7a4_38 ?_
  refine x_iadd (pc := 39) dJ6_bitCount_0f7a4_39 ?_
  refine x_istore_n (pc := 40) 0 dJ6_bitCount_0f7a4_40 rfl (by decide) rfl ?_
  refine x_iload_n (pc := 41) 0 dJ6_bitCount_0f7a4_41 rfl rfl ?_
  refine x_iload_n (pc := 42) 0 dJ6_bitCount_0f7a4_42 rfl rfl ?_
  refine x_bipush (pc := 43) (16 : Int32) dJ6_bitCount_0f7a4_43 (by decide +kernel) ?_
  refine x_iushr (pc := 45) dJ6_bitCount_0f7a4_45 ?_
  refine x_iadd (pc := 46) dJ6_bitCount_0f7a4_46 ?_
  refine x_istore_n (pc := 47) 0 dJ6_bitCount_0f7a4_47 rfl (by decide) rfl ?_
  refine x_iload_n (pc := 48) 0 dJ6_bitCount_0f7a4_48 rfl rfl ?_
  refine x_bipush (pc := 49) (63 : Int32) dJ6_bitCount_0f7a4_49 (by decide +kernel) ?_
  refine x_iand (pc := 51) dJ6_bitCount_0f7a4_51 ?_
  exact x_ireturn2 (pc := 52) dJ6_bitCount_0f7a4_52 rfl h.1 h.2
theorem dX2_claimParts_0 : decode cX2_claimParts 0 = .ok (.iconst 1, 1) := by decide +kernel
theorem dX2_claimParts_1 : decode cX2_claimParts 1 = .ok (.aload_n 0, 1) := by decide +kernel
theorem dX2_claimParts_2 : decode cX2_claimParts 2 = .ok (.getfield 9, 3) := by decide +kernel
theorem dX2_claimParts_5 : decode cX2_claimParts 5 = .ok (.iload_n 1, 1) := by decide +kernel
theorem dX2_claimParts_6 : decode cX2_claimParts 6 = .ok (.iaload, 1) := by decide +kernel
theorem dX2_claimParts_7 : decode cX2_claimParts 7 = .ok (.invokestatic 33, 3) := by decide +kernel
theorem dX2_claimParts_10 : decode cX2_claimParts 10 = .ok (.ishl, 1) := by decide +kernel
theorem dX2_claimParts_11 : decode cX2_claimParts 11 = .ok (.istore_n 2, 1) := by decide +kernel
theorem dX2_claimParts_12 : decode cX2_claimParts 12 = .ok (.aload_n 0, 1) := by decide +kernel
theorem dX2_claimParts_13 : decode cX2_claimParts 13 = .ok (.getfield 9, 3) := by decide +kernel
theorem dX2_claimParts_16 : decode cX2_claimParts 16 = .ok (.iload_n 1, 1) := by decide +kernel
theorem dX2_claimParts_17 : decode cX2_claimParts 17 = .ok (.iaload, 1) := by decide +kernel
theorem dX2_claimParts_18 : decode cX2_claimParts 18 = .ok (.istore_n 3, 1) := by decide +kernel
theorem dX2_claimParts_19 : decode cX2_claimParts 19 = .ok (.iconst 1, 1) := by decide +kernel
theorem dX2_claimParts_20 : decode cX2_claimParts 20 = .ok (.istore 4, 2) := by decide +kernel
theorem dX2_claimParts_22 : decode cX2_claimParts 22 = .ok (.iload 4, 2) := by decide +kernel
theorem dX2_claimParts_24 : decode cX2_claimParts 24 = .ok (.iload_n 2, 1) := by decide +kernel
theorem dX2_claimParts_25 : decode cX2_claimParts 25 = .ok (.if_icmp .ge 27, 3) := by decide +kernel
theorem dX2_claimParts_28 : decode cX2_claimParts 28 = .ok (.aload_n 0, 1) := by decide +kernel
theorem dX2_claimParts_29 : decode cX2_claimParts 29 = .ok (.getfield 15, 3) := by decide +kernel
theorem dX2_claimParts_32 : decode cX2_claimParts 32 = .ok (.iload_n 3, 1) := by decide +kernel
theorem dX2_claimParts_33 : decode cX2_claimParts 33 = .ok (.iload_n 1, 1) := by decide +kernel
theorem dX2_claimParts_34 : decode cX2_claimParts 34 = .ok (.iastore, 1) := by decide +kernel
theorem dX2_claimParts_35 : decode cX2_claimParts 35 = .ok (.iload_n 3, 1) := by decide +kernel
theorem dX2_claimParts_36 : decode cX2_claimParts 36 = .ok (.iconst 1, 1) := by decide +kernel
theorem dX2_claimParts_37 : decode cX2_claimParts 37 = .ok (.isub, 1) := by decide +kernel
theorem dX2_claimParts_38 : decode cX2_claimParts 38 = .ok (.aload_n 0, 1) := by decide +kernel
theorem dX2_claimParts_39 : decode cX2_claimParts 39 = .ok (.getfield 9, 3) := by decide +kernel
theorem dX2_claimParts_42 : decode cX2_claimParts 42 = .ok (.iload_n 1, 1) := by decide +kernel
theorem dX2_claimParts_43 : decode cX2_claimParts 43 = .ok (.iaload, 1) := by decide +kernel
theorem dX2_claimParts_44 : decode cX2_claimParts 44 = .ok (.iand, 1) := by decide +kernel
theorem dX2_claimParts_45 : decode cX2_claimParts 45 = .ok (.istore_n 3, 1) := by decide +kernel
theorem dX2_claimParts_46 : decode cX2_claimParts 46 = .ok (.iinc 4 1, 3) := by decide +kernel
theorem dX2_claimParts_49 : decode cX2_claimParts 49 = .ok (.goto (-27), 3) := by decide +kernel
theorem dX2_claimParts_52 : decode cX2_claimParts 52 = .ok (.return_, 1) := by decide +kernel
def R_X2_claimParts (a1 : Int32) (σ : kS) (τ : kS) : Prop := Run SX jX2_claimParts [(.ref 24), (.int a1)] σ none τ
def E_X2_claimParts_22 (l1 : Int32) (l2 : Int32) (l3 : Int32) (l4 : Int32) (σ : kS) (τ : kS) : Prop := Ex SX jX2_claimParts 22 [some (.ref 24), some (.int l1), some (.int l2), some (.int l3), some (.int l4)] [] σ none τ
set_option maxRecDepth 20000 in
theorem t_X2_claimParts {a1 : Int32} {σ : kS} {τ : kS}  (h : vp_in a1 48 ∧ (∃ (x3 : Int32) (s2 : kS), R_J6_bitCount_0f7a4 (σ.1 25 a1.toNatClampNeg) σ x3 s2 ∧ (vp_in a1 48 ∧ (E_X2_claimParts_22 a1 ((1 : Int32) <<< (x3 &&& 31)) (s2.1 25 a1.toNatClampNeg) (1 : Int32) s2 τ)))) : R_X2_claimParts a1 σ τ := by
  refine x_run [some (.ref 24), some (.int a1), none, none, none] (by decide +kernel) rfl (Nat.le_of_ble_eq_true rfl) ?_
  refine x_iconst (pc := 0) (1 : Int32) dX2_claimParts_0 (by decide +kernel) ?_
  refine x_aload_n (pc := 1) 0 dX2_claimParts_1 rfl rfl ?_
  refine x_getR (pc := 2) dX2_claimParts_2 fX2_9 rfl rfl ?_
  refine x_iload_n (pc := 5) 1 dX2_claimParts_5 rfl rfl ?_
  obtain ⟨g1, h⟩ := h
  refine x_iaload (pc := 6) (n := 48) dX2_claimParts_6 rfl g1 ?_
  obtain ⟨x3, s2, hr, h⟩ := h
  refine x_callS (pc := 7) [(.int (σ.1 25 a1.toNatClampNeg))] [(.int (1 : Int32))] dX2_claimParts_7 ⟨⟨hJ6_bitCount_0f7a4.1, hJ6_bitCount_0f7a4.2.1, hJ6_bitCount_0f7a4.2.2, by decide⟩, mX2_33, sJ6_bitCount_0f7a4⟩ rfl rfl (Nat.le_of_ble_eq_true rfl) hr ?_
  refine x_ishl (pc := 10) dX2_claimParts_10 ?_
  refine x_istore_n (pc := 11) 2 dX2_claimParts_11 rfl (by decide) rfl ?_
  refine x_aload_n (pc := 12) 0 dX2_claimParts_12 rfl rfl ?_
  refine x_getR (pc := 13) dX2_claimParts_13 fX2_9 rfl rfl ?_
  refine x_iload_n (pc := 16) 1 dX2_claimParts_16 rfl rfl ?_
  obtain ⟨g4, h⟩ := h
  refine x_iaload (pc := 17) (n := 48) dX2_claimParts_17 rfl g4 ?_
  refine x_istore_n (pc := 18) 3 dX2_claimParts_18 rfl (by decide) rfl ?_
  refine x_iconst (pc := 19) (1 : Int32) dX2_claimParts_19 (by decide +kernel) ?_
  refine x_istore (pc := 20) dX2_claimParts_20 (by decide) rfl ?_
  exact h
set_option maxRecDepth 20000 in
theorem t_X2_claimParts_22 {l1 : Int32} {l2 : Int32} {l3 : Int32} {l4 : Int32} {σ : kS} {τ : kS}  (h : (l2 ≤ l4 → τ = σ) ∧ (¬ l2 ≤ l4 → vp_in l3 4096 ∧ (vp_in l1 48 ∧ (E_X2_claimParts_22 l1 l2 ((l3 - (1 : Int32)) &&& (σ.1 25 l1.toNatClampNeg)) (l4 + (1 : Int32)) (k_si σ 26 l3.toNatClampNeg l1) τ)))) : E_X2_claimParts_22 l1 l2 l3 l4 σ τ := by
  unfold E_X2_claimParts_22
  refine x_iload (pc := 22) dX2_claimParts_22 rfl ?_
  refine x_iload_n (pc := 24) 2 dX2_claimParts_24 rfl rfl ?_
  refine x_icmp_ge (pc := 25) 52 dX2_claimParts_25 (by decide) (fun c1 => ?_) (fun c1 => ?_)
  · replace h := h.1 c1
    exact x_return2 (pc := 52) dX2_claimParts_52 rfl h
  · replace h := h.2 c1
    refine x_aload_n (pc := 28) 0 dX2_claimParts_28 rfl rfl ?_
    refine x_getR (pc := 29) dX2_claimParts_29 fX2_15 rfl rfl ?_
    refine x_iload_n (pc := 32) 3 dX2_claimParts_32 rfl rfl ?_
    refine x_iload_n (pc := 33) 1 dX2_claimParts_33 rfl rfl ?_
    obtain ⟨g2, h⟩ := h
    refine x_iastore (pc := 34) (n := 4096) dX2_claimParts_34 rfl g2 ?_
    refine x_iload_n (pc := 35) 3 dX2_claimParts_35 rfl rfl ?_
    refine x_iconst (pc := 36) (1 : Int32) dX2_claimParts_36 (by decide +kernel) ?_
    refine x_isub (pc := 37) dX2_claimParts_37 ?_
    refine x_aload_n (pc := 38) 0 dX2_claimParts_38 rfl rfl ?_
    refine x_getR (pc := 39) dX2_claimParts_39 fX2_9 rfl rfl ?_
    refine x_iload_n (pc := 42) 1 dX2_claimParts_42 rfl rfl ?_
    obtain ⟨g3, h⟩ := h
    refine x_iaload (pc := 43) (n := 48) dX2_claimParts_43 rfl g3 ?_
    refine x_iand (pc := 44) dX2_claimParts_44 ?_
    refine x_istore_n (pc := 45) 3 dX2_claimParts_45 rfl (by decide) rfl ?_
    refine x_iinc (pc := 46) (1 : Int32) dX2_claimParts_46 (by decide) rfl rfl (by decide +kernel) ?_
    refine x_goto (pc := 49) 22 dX2_claimParts_49 (by decide) ?_
    exact h
theorem dX2_learnShape_0 : decode cX2_learnShape 0 = .ok (.bipush 11, 2) := by decide +kernel
theorem dX2_learnShape_2 : decode cX2_learnShape 2 = .ok (.istore_n 3, 1) := by decide +kernel
theorem dX2_learnShape_3 : decode cX2_learnShape 3 = .ok (.iload_n 3, 1) := by decide +kernel
theorem dX2_learnShape_4 : decode cX2_learnShape 4 = .ok (.ifCond .lt 44, 3) := by decide +kernel
theorem dX2_learnShape_7 : decode cX2_learnShape 7 = .ok (.iload_n 1, 1) := by decide +kernel
theorem dX2_learnShape_8 : decode cX2_learnShape 8 = .ok (.bipush 12, 2) := by decide +kernel
theorem dX2_learnShape_10 : decode cX2_learnShape 10 = .ok (.imul, 1) := by decide +kernel
theorem dX2_learnShape_11 : decode cX2_learnShape 11 = .ok (.iload_n 3, 1) := by decide +kernel
theorem dX2_learnShape_12 : decode cX2_learnShape 12 = .ok (.iadd, 1) := by decide +kernel
theorem dX2_learnShape_13 : decode cX2_learnShape 13 = .ok (.istore 4, 2) := by decide +kernel
theorem dX2_learnShape_15 : decode cX2_learnShape 15 = .ok (.aload_n 0, 1) := by decide +kernel
theorem dX2_learnShape_16 : decode cX2_learnShape 16 = .ok (.getfield 9, 3) := by decide +kernel
theorem dX2_learnShape_19 : decode cX2_learnShape 19 = .ok (.iload 4, 2) := by decide +kernel
theorem dX2_learnShape_21 : decode cX2_learnShape 21 = .ok (.iload_n 2, 1) := by decide +kernel
theorem dX2_learnShape_22 : decode cX2_learnShape 22 = .ok (.iload_n 3, 1) := by decide +kernel
theorem dX2_learnShape_23 : decode cX2_learnShape 23 = .ok (.ishl, 1) := by decide +kernel
theorem dX2_learnShape_24 : decode cX2_learnShape 24 = .ok (.iload_n 2, 1) := by decide +kernel
theorem dX2_learnShape_25 : decode cX2_learnShape 25 = .ok (.bipush 12, 2) := by decide +kernel
theorem dX2_learnShape_27 : decode cX2_learnShape 27 = .ok (.iload_n 3, 1) := by decide +kernel
theorem dX2_learnShape_28 : decode cX2_learnShape 28 = .ok (.isub, 1) := by decide +kernel
theorem dX2_learnShape_29 : decode cX2_learnShape 29 = .ok (.ishr, 1) := by decide +kernel
theorem dX2_learnShape_30 : decode cX2_learnShape 30 = .ok (.ior, 1) := by decide +kernel
theorem dX2_learnShape_31 : decode cX2_learnShape 31 = .ok (.sipush 4095, 3) := by decide +kernel
theorem dX2_learnShape_34 : decode cX2_learnShape 34 = .ok (.iand, 1) := by decide +kernel
theorem dX2_learnShape_35 : decode cX2_learnShape 35 = .ok (.iastore, 1) := by decide +kernel
theorem dX2_learnShape_36 : decode cX2_learnShape 36 = .ok (.aload_n 0, 1) := by decide +kernel
theorem dX2_learnShape_37 : decode cX2_learnShape 37 = .ok (.iload 4, 2) := by decide +kernel
theorem dX2_learnShape_39 : decode cX2_learnShape 39 = .ok (.invokevirtual 43, 3) := by decide +kernel
theorem dX2_learnShape_42 : decode cX2_learnShape 42 = .ok (.iinc 3 (-1), 3) := by decide +kernel
theorem dX2_learnShape_45 : decode cX2_learnShape 45 = .ok (.goto (-42), 3) := by decide +kernel
theorem dX2_learnShape_48 : decode cX2_learnShape 48 = .ok (.return_, 1) := by decide +kernel
def R_X2_learnShape (a1 : Int32) (a2 : Int32) (σ : kS) (τ : kS) : Prop := Run SX jX2_learnShape [(.ref 24), (.int a1), (.int a2)] σ none τ
def E_X2_learnShape_3 (l1 : Int32) (l2 : Int32) (l3 : Int32) (σ : kS) (τ : kS) : Prop := Ex SX jX2_learnShape 3 [some (.ref 24), some (.int l1), some (.int l2), some (.int l3), none] [] σ none τ
set_option maxRecDepth 20000 in
theorem t_X2_learnShape {a1 : Int32} {a2 : Int32} {σ : kS} {τ : kS}  (h : E_X2_learnShape_3 a1 a2 (11 : Int32) σ τ) : R_X2_learnShape a1 a2 σ τ := by
  refine x_run [some (.ref 24), some (.int a1), some (.int a2), none, none] (by decide +kernel) rfl (Nat.le_of_ble_eq_true rfl) ?_
  refine x_bipush (pc := 0) (11 : Int32) dX2_learnShape_0 (by decide +kernel) ?_
  refine x_istore_n (pc := 2) 3 dX2_learnShape_2 rfl (by decide) rfl ?_
  exact h
set_option maxRecDepth 20000 in
theorem t_X2_learnShape_3 {l1 : Int32} {l2 : Int32} {l3 : Int32} {σ : kS} {τ : kS}  (h : (l3 < 0 → τ = σ) ∧ (¬ l3 < 0 → vp_in ((l1 * (12 : Int32)) + l3) 48 ∧ (∃ s3 : kS, R_X2_claimParts ((l1 * (12 : Int32)) + l3) (k_si σ 25 ((l1 * (12 : Int32)) + l3).toNatClampNeg (((l2 <<< (l3 &&& 31)) ||| (l2 >>> (((12 : Int32) - l3) &&& 31))) &&& (4095 : Int32))) s3 ∧ (E_X2_learnShape_3 l1 l2 (l3 + (-1 : Int32)) s3 τ)))) : E_X2_learnShape_3 l1 l2 l3 σ τ := by
  unfold E_X2_learnShape_3
  refine x_iload_n (pc := 3) 3 dX2_learnShape_3 rfl rfl ?_
  refine x_if_lt (pc := 4) 48 dX2_learnShape_4 (by decide) (fun c1 => ?_) (fun c1 => ?_)
  · replace h := h.1 c1
    exact x_return2 (pc := 48) dX2_learnShape_48 rfl h
  · replace h := h.2 c1
    refine x_iload_n (pc := 7) 1 dX2_learnShape_7 rfl rfl ?_
    refine x_bipush (pc := 8) (12 : Int32) dX2_learnShape_8 (by decide +kernel) ?_
    refine x_imul (pc := 10) dX2_learnShape_10 ?_
    refine x_iload_n (pc := 11) 3 dX2_learnShape_11 rfl rfl ?_
    refine x_iadd (pc := 12) dX2_learnShape_12 ?_
    refine x_istore (pc := 13) dX2_learnShape_13 (by decide) rfl ?_
    refine x_aload_n (pc := 15) 0 dX2_learnShape_15 rfl rfl ?_
    refine x_getR (pc := 16) dX2_learnShape_16 fX2_9 rfl rfl ?_
    refine x_iload (pc := 19) dX2_learnShape_19 rfl ?_
    refine x_iload_n (pc := 21) 2 dX2_learnShape_21 rfl rfl ?_
    refine x_iload_n (pc := 22) 3 dX2_learnShape_22 rfl rfl ?_
    refine x_ishl (pc := 23) dX2_learnShape_23 ?_
    refine x_iload_n (pc := 24) 2 dX2_learnShape_24 rfl rfl ?_
    refine x_bipush (pc := 25) (12 : Int32) dX2_learnShape_25 (by decide +kernel) ?_
    refine x_iload_n (pc := 27) 3 dX2_learnShape_27 rfl rfl ?_
    refine x_isub (pc := 28) dX2_learnShape_28 ?_
    refine x_ishr (pc := 29) dX2_learnShape_29 ?_
    refine x_ior (pc := 30) dX2_learnShape_30 ?_
    refine x_sipush (pc := 31) (4095 : Int32) dX2_learnShape_31 (by decide +kernel) ?_
    refine x_iand (pc := 34) dX2_learnShape_34 ?_
    obtain ⟨g2, h⟩ := h
    refine x_iastore (pc := 35) (n := 48) dX2_learnShape_35 rfl g2 ?_
    refine x_aload_n (pc := 36) 0 dX2_learnShape_36 rfl rfl ?_
    refine x_iload (pc := 37) dX2_learnShape_37 rfl ?_
    obtain ⟨s3, hr, h⟩ := h
    refine x_callV (pc := 39) [(.int ((l1 * (12 : Int32)) + l3))] [] dX2_learnShape_39 ⟨⟨hX2_claimParts.1, hX2_claimParts.2.1, hX2_claimParts.2.2, by decide⟩, mX2_43, vX2_claimParts.1, vX2_claimParts.2⟩ (ci := 2) rfl rfl rfl rfl (Nat.le_of_ble_eq_true rfl) hr ?_
    refine x_iinc (pc := 42) (-1 : Int32) dX2_learnShape_42 (by decide) rfl rfl (by decide +kernel) ?_
    refine x_goto (pc := 45) 3 dX2_learnShape_45 (by decide) ?_
    exact x_mask [true, true, true, true, false] h
theorem dX2_learn_0 : decode cX2_learn 0 = .ok (.aload_n 0, 1) := by decide +kernel
theorem dX2_learn_1 : decode cX2_learn 1 = .ok (.getfield 15, 3) := by decide +kernel
theorem dX2_learn_4 : decode cX2_learn 4 = .ok (.iconst (-1), 1) := by decide +kernel
theorem dX2_learn_5 : decode cX2_learn 5 = .ok (.invokestatic 18, 3) := by decide +kernel
theorem dX2_learn_8 : decode cX2_learn 8 = .ok (.iconst 5, 1) := by decide +kernel
theorem dX2_learn_9 : decode cX2_learn 9 = .ok (.istore_n 2, 1) := by decide +kernel
theorem dX2_learn_10 : decode cX2_learn 10 = .ok (.iload_n 2, 1) := by decide +kernel
theorem dX2_learn_11 : decode cX2_learn 11 = .ok (.iconst 2, 1) := by decide +kernel
theorem dX2_learn_12 : decode cX2_learn 12 = .ok (.if_icmp .lt 50, 3) := by decide +kernel
theorem dX2_learn_15 : decode cX2_learn 15 = .ok (.aload_n 1, 1) := by decide +kernel
theorem dX2_learn_16 : decode cX2_learn 16 = .ok (.getfield 24, 3) := by decide +kernel
theorem dX2_learn_19 : decode cX2_learn 19 = .ok (.iconst 1, 1) := by decide +kernel
theorem dX2_learn_20 : decode cX2_learn 20 = .ok (.isub, 1) := by decide +kernel
theorem dX2_learn_21 : decode cX2_learn 21 = .ok (.istore_n 3, 1) := by decide +kernel
theorem dX2_learn_22 : decode cX2_learn 22 = .ok (.iload_n 3, 1) := by decide +kernel
theorem dX2_learn_23 : decode cX2_learn 23 = .ok (.ifCond .lt 33, 3) := by decide +kernel
theorem dX2_learn_26 : decode cX2_learn 26 = .ok (.aload_n 1, 1) := by decide +kernel
theorem dX2_learn_27 : decode cX2_learn 27 = .ok (.getfield 30, 3) := by decide +kernel
theorem dX2_learn_30 : decode cX2_learn 30 = .ok (.iload_n 3, 1) := by decide +kernel
theorem dX2_learn_31 : decode cX2_learn 31 = .ok (.iaload, 1) := by decide +kernel
theorem dX2_learn_32 : decode cX2_learn 32 = .ok (.invokestatic 33, 3) := by decide +kernel
theorem dX2_learn_35 : decode cX2_learn 35 = .ok (.iload_n 2, 1) := by decide +kernel
theorem dX2_learn_36 : decode cX2_learn 36 = .ok (.if_icmp .ne 14, 3) := by decide +kernel
theorem dX2_learn_39 : decode cX2_learn 39 = .ok (.aload_n 0, 1) := by decide +kernel
theorem dX2_learn_40 : decode cX2_learn 40 = .ok (.iload_n 3, 1) := by decide +kernel
theorem dX2_learn_41 : decode cX2_learn 41 = .ok (.aload_n 1, 1) := by decide +kernel
theorem dX2_learn_42 : decode cX2_learn 42 = .ok (.getfield 30, 3) := by decide +kernel
theorem dX2_learn_45 : decode cX2_learn 45 = .ok (.iload_n 3, 1) := by decide +kernel
theorem dX2_learn_46 : decode cX2_learn 46 = .ok (.iaload, 1) := by decide +kernel
theorem dX2_learn_47 : decode cX2_learn 47 = .ok (.invokevirtual 39, 3) := by decide +kernel
theorem dX2_learn_50 : decode cX2_learn 50 = .ok (.iinc 3 (-1), 3) := by decide +kernel
theorem dX2_learn_53 : decode cX2_learn 53 = .ok (.goto (-31), 3) := by decide +kernel
theorem dX2_learn_56 : decode cX2_learn 56 = .ok (.iinc 2 (-1), 3) := by decide +kernel
theorem dX2_learn_59 : decode cX2_learn 59 = .ok (.goto (-49), 3) := by decide +kernel
theorem dX2_learn_62 : decode cX2_learn 62 = .ok (.return_, 1) := by decide +kernel
def R_X2_learn  (σ : kS) (τ : kS) : Prop := Run SX jX2_learn [(.ref 24), (.ref 3)] σ none τ
def E_X2_learn_10 (l2 : Int32) (σ : kS) (τ : kS) : Prop := Ex SX jX2_learn 10 [some (.ref 24), some (.ref 3), some (.int l2), none] [] σ none τ
def E_X2_learn_22 (l2 : Int32) (l3 : Int32) (σ : kS) (τ : kS) : Prop := Ex SX jX2_learn 22 [some (.ref 24), some (.ref 3), some (.int l2), some (.int l3)] [] σ none τ
set_option maxRecDepth 20000 in
theorem t_X2_learn  {σ : kS} {τ : kS}  (h : ∃ s1 : kS, R_J7_fill_53178 26 4096 (-1 : Int32) σ s1 ∧ (E_X2_learn_10 (5 : Int32) s1 τ)) : R_X2_learn  σ τ := by
  refine x_run [some (.ref 24), some (.ref 3), none, none] (by decide +kernel) rfl (Nat.le_of_ble_eq_true rfl) ?_
  refine x_aload_n (pc := 0) 0 dX2_learn_0 rfl rfl ?_
  refine x_getR (pc := 1) dX2_learn_1 fX2_15 rfl rfl ?_
  refine x_iconst (pc := 4) (-1 : Int32) dX2_learn_4 (by decide +kernel) ?_
  obtain ⟨s1, hr, h⟩ := h
  refine x_callS (pc := 5) [(.ref 26), (.int (-1 : Int32))] [] dX2_learn_5 ⟨⟨hJ7_fill_53178.1, hJ7_fill_53178.2.1, hJ7_fill_53178.2.2, by decide⟩, mX2_18, sJ7_fill_53178⟩ rfl rfl (Nat.le_of_ble_eq_true rfl) hr ?_
  refine x_iconst (pc := 8) (5 : Int32) dX2_learn_8 (by decide +kernel) ?_
  refine x_istore_n (pc := 9) 2 dX2_learn_9 rfl (by decide) rfl ?_
  exact h
set_option maxRecDepth 20000 in
theorem t_X2_learn_10 {l2 : Int32} {σ : kS} {τ : kS}  (h : (l2 < (2 : Int32) → τ = σ) ∧ (¬ l2 < (2 : Int32) → E_X2_learn_22 l2 ((σ.1 3 0) - (1 : Int32)) σ τ)) : E_X2_learn_10 l2 σ τ := by
  unfold E_X2_learn_10
  refine x_iload_n (pc := 10) 2 dX2_learn_10 rfl rfl ?_
  refine x_iconst (pc := 11) (2 : Int32) dX2_learn_11 (by decide +kernel) ?_
  refine x_icmp_lt (pc := 12) 62 dX2_learn_12 (by decide) (fun c1 => ?_) (fun c1 => ?_)
  · replace h := h.1 c1
    exact x_return2 (pc := 62) dX2_learn_62 rfl h
  · replace h := h.2 c1
    refine x_aload_n (pc := 15) 1 dX2_learn_15 rfl rfl ?_
    refine x_getI (pc := 16) dX2_learn_16 fX2_24 rfl rfl ?_
    refine x_iconst (pc := 19) (1 : Int32) dX2_learn_19 (by decide +kernel) ?_
    refine x_isub (pc := 20) dX2_learn_20 ?_
    refine x_istore_n (pc := 21) 3 dX2_learn_21 rfl (by decide) rfl ?_
    exact h
set_option maxRecDepth 20000 in
theorem t_X2_learn_22 {l2 : Int32} {l3 : Int32} {σ : kS} {τ : kS}  (h : (l3 < 0 → E_X2_learn_10 (l2 + (-1 : Int32)) σ τ) ∧ (¬ l3 < 0 → vp_in l3 4 ∧ (∃ (x4 : Int32) (s3 : kS), R_J6_bitCount_0f7a4 (σ.1 4 l3.toNatClampNeg) σ x4 s3 ∧ ((¬ x4 = l2 → E_X2_learn_22 l2 (l3 + (-1 : Int32)) s3 τ) ∧ (x4 = l2 → vp_in l3 4 ∧ (∃ s7 : kS, R_X2_learnShape l3 (s3.1 4 l3.toNatClampNeg) s3 s7 ∧ (E_X2_learn_22 l2 (l3 + (-1 : Int32)) s7 τ))))))) : E_X2_learn_22 l2 l3 σ τ := by
  unfold E_X2_learn_22
  refine x_iload_n (pc := 22) 3 dX2_learn_22 rfl rfl ?_
  refine x_if_lt (pc := 23) 56 dX2_learn_23 (by decide) (fun c1 => ?_) (fun c1 => ?_)
  · replace h := h.1 c1
    refine x_iinc (pc := 56) (-1 : Int32) dX2_learn_56 (by decide) rfl rfl (by decide +kernel) ?_
    refine x_goto (pc := 59) 10 dX2_learn_59 (by decide) ?_
    exact x_mask [true, true, true, false] h
  · replace h := h.2 c1
    refine x_aload_n (pc := 26) 1 dX2_learn_26 rfl rfl ?_
    refine x_getR (pc := 27) dX2_learn_27 fX2_30 rfl rfl ?_
    refine x_iload_n (pc := 30) 3 dX2_learn_30 rfl rfl ?_
    obtain ⟨g2, h⟩ := h
    refine x_iaload (pc := 31) (n := 4) dX2_learn_31 rfl g2 ?_
    obtain ⟨x4, s3, hr, h⟩ := h
    refine x_callS (pc := 32) [(.int (σ.1 4 l3.toNatClampNeg))] [] dX2_learn_32 ⟨⟨hJ6_bitCount_0f7a4.1, hJ6_bitCount_0f7a4.2.1, hJ6_bitCount_0f7a4.2.2, by decide⟩, mX2_33, sJ6_bitCount_0f7a4⟩ rfl rfl (Nat.le_of_ble_eq_true rfl) hr ?_
    refine x_iload_n (pc := 35) 2 dX2_learn_35 rfl rfl ?_
    refine x_icmp_ne (pc := 36) 50 dX2_learn_36 (by decide) (fun c5 => ?_) (fun c5 => ?_)
    · replace h := h.1 c5
      refine x_iinc (pc := 50) (-1 : Int32) dX2_learn_50 (by decide) rfl rfl (by decide +kernel) ?_
      refine x_goto (pc := 53) 22 dX2_learn_53 (by decide) ?_
      exact h
    · replace h := h.2 c5
      refine x_aload_n (pc := 39) 0 dX2_learn_39 rfl rfl ?_
      refine x_iload_n (pc := 40) 3 dX2_learn_40 rfl rfl ?_
      refine x_aload_n (pc := 41) 1 dX2_learn_41 rfl rfl ?_
      refine x_getR (pc := 42) dX2_learn_42 fX2_30 rfl rfl ?_
      refine x_iload_n (pc := 45) 3 dX2_learn_45 rfl rfl ?_
      obtain ⟨g6, h⟩ := h
      refine x_iaload (pc := 46) (n := 4) dX2_learn_46 rfl g6 ?_
      obtain ⟨s7, hr, h⟩ := h
      refine x_callV (pc := 47) [(.int l3), (.int (s3.1 4 l3.toNatClampNeg))] [] dX2_learn_47 ⟨⟨hX2_learnShape.1, hX2_learnShape.2.1, hX2_learnShape.2.2, by decide⟩, mX2_39, vX2_learnShape.1, vX2_learnShape.2⟩ (ci := 2) rfl rfl rfl rfl (Nat.le_of_ble_eq_true rfl) hr ?_
      refine x_iinc (pc := 50) (-1 : Int32) dX2_learn_50 (by decide) rfl rfl (by decide +kernel) ?_
      refine x_goto (pc := 53) 22 dX2_learn_53 (by decide) ?_
      exact h
theorem dX2_shapeOf_0 : decode cX2_shapeOf 0 = .ok (.aload_n 0, 1) := by decide +kernel
theorem dX2_shapeOf_1 : decode cX2_shapeOf 1 = .ok (.iload_n 1, 1) := by decide +kernel
theorem dX2_shapeOf_2 : decode cX2_shapeOf 2 = .ok (.invokevirtual 47, 3) := by decide +kernel
theorem dX2_shapeOf_5 : decode cX2_shapeOf 5 = .ok (.ifCond .eq 15, 3) := by decide +kernel
theorem dX2_shapeOf_8 : decode cX2_shapeOf 8 = .ok (.aload_n 0, 1) := by decide +kernel
theorem dX2_shapeOf_9 : decode cX2_shapeOf 9 = .ok (.getfield 15, 3) := by decide +kernel
theorem dX2_shapeOf_12 : decode cX2_shapeOf 12 = .ok (.iload_n 1, 1) := by decide +kernel
theorem dX2_shapeOf_13 : decode cX2_shapeOf 13 = .ok (.iaload, 1) := by decide +kernel
theorem dX2_shapeOf_14 : decode cX2_shapeOf 14 = .ok (.bipush 12, 2) := by decide +kernel
theorem dX2_shapeOf_16 : decode cX2_shapeOf 16 = .ok (.idiv, 1) := by decide +kernel
theorem dX2_shapeOf_17 : decode cX2_shapeOf 17 = .ok (.goto 5, 3) := by decide +kernel
theorem dX2_shapeOf_20 : decode cX2_shapeOf 20 = .ok (.bipush (-4), 2) := by decide +kernel
theorem dX2_shapeOf_22 : decode cX2_shapeOf 22 = .ok (.ireturn, 1) := by decide +kernel
def R_X2_shapeOf (a1 : Int32) (σ : kS) (x : Int32) (τ : kS) : Prop := Run SX jX2_shapeOf [(.ref 24), (.int a1)] σ (some (.int x)) τ
set_option maxRecDepth 20000 in
theorem t_X2_shapeOf {a1 : Int32} {σ : kS} {x : Int32} {τ : kS}  (h : ∃ (x2 : Int32) (s1 : kS), R_X2_isThere a1 σ x2 s1 ∧ ((x2 = 0 → x = (-4 : Int32) ∧ τ = s1) ∧ (¬ x2 = 0 → vp_in a1 4096 ∧ (x = ((s1.1 26 a1.toNatClampNeg) / (12 : Int32)) ∧ τ = s1)))) : R_X2_shapeOf a1 σ x τ := by
  refine x_run [some (.ref 24), some (.int a1)] (by decide +kernel) rfl (Nat.le_of_ble_eq_true rfl) ?_
  refine x_aload_n (pc := 0) 0 dX2_shapeOf_0 rfl rfl ?_
  refine x_iload_n (pc := 1) 1 dX2_shapeOf_1 rfl rfl ?_
  obtain ⟨x2, s1, hr, h⟩ := h
  refine x_callV (pc := 2) [(.int a1)] [] dX2_shapeOf_2 ⟨⟨hX2_isThere.1, hX2_isThere.2.1, hX2_isThere.2.2, by decide⟩, mX2_47, vX2_isThere.1, vX2_isThere.2⟩ (ci := 2) rfl rfl rfl rfl (Nat.le_of_ble_eq_true rfl) hr ?_
  refine x_if_eq (pc := 5) 20 dX2_shapeOf_5 (by decide) (fun c3 => ?_) (fun c3 => ?_)
  · replace h := h.1 c3
    refine x_bipush (pc := 20) (-4 : Int32) dX2_shapeOf_20 (by decide +kernel) ?_
    exact x_ireturn2 (pc := 22) dX2_shapeOf_22 rfl h.1 h.2
  · replace h := h.2 c3
    refine x_aload_n (pc := 8) 0 dX2_shapeOf_8 rfl rfl ?_
    refine x_getR (pc := 9) dX2_shapeOf_9 fX2_15 rfl rfl ?_
    refine x_iload_n (pc := 12) 1 dX2_shapeOf_12 rfl rfl ?_
    obtain ⟨g4, h⟩ := h
    refine x_iaload (pc := 13) (n := 4096) dX2_shapeOf_13 rfl g4 ?_
    refine x_bipush (pc := 14) (12 : Int32) dX2_shapeOf_14 (by decide +kernel) ?_
    refine x_idiv (pc := 16) dX2_shapeOf_16 (by decide) ?_
    refine x_goto (pc := 17) 22 dX2_shapeOf_17 (by decide) ?_
    exact x_ireturn2 (pc := 22) dX2_shapeOf_22 rfl h.1 h.2
theorem dX3_agrees_0 : decode cX3_agrees 0 = .ok (.iconst 0, 1) := by decide +kernel
theorem dX3_agrees_1 : decode cX3_agrees 1 = .ok (.istore 5, 2) := by decide +kernel
theorem dX3_agrees_3 : decode cX3_agrees 3 = .ok (.iload 5, 2) := by decide +kernel
theorem dX3_agrees_5 : decode cX3_agrees 5 = .ok (.iload 4, 2) := by decide +kernel
theorem dX3_agrees_7 : decode cX3_agrees 7 = .ok (.if_icmp .ge 49, 3) := by decide +kernel
theorem dX3_agrees_10 : decode cX3_agrees 10 = .ok (.aload_n 2, 1) := by decide +kernel
theorem dX3_agrees_11 : decode cX3_agrees 11 = .ok (.aload_n 1, 1) := by decide +kernel
theorem dX3_agrees_12 : decode cX3_agrees 12 = .ok (.getfield 54, 3) := by decide +kernel
theorem dX3_agrees_15 : decode cX3_agrees 15 = .ok (.aload_n 0, 1) := by decide +kernel
theorem dX3_agrees_16 : decode cX3_agrees 16 = .ok (.getfield 9, 3) := by decide +kernel
theorem dX3_agrees_19 : decode cX3_agrees 19 = .ok (.iload 5, 2) := by decide +kernel
theorem dX3_agrees_21 : decode cX3_agrees 21 = .ok (.iaload, 1) := by decide +kernel
theorem dX3_agrees_22 : decode cX3_agrees 22 = .ok (.iaload, 1) := by decide +kernel
theorem dX3_agrees_23 : decode cX3_agrees 23 = .ok (.aload_n 1, 1) := by decide +kernel
theorem dX3_agrees_24 : decode cX3_agrees 24 = .ok (.aload_n 0, 1) := by decide +kernel
theorem dX3_agrees_25 : decode cX3_agrees 25 = .ok (.getfield 9, 3) := by decide +kernel
theorem dX3_agrees_28 : decode cX3_agrees 28 = .ok (.iload 5, 2) := by decide +kernel
theorem dX3_agrees_30 : decode cX3_agrees 30 = .ok (.iaload, 1) := by decide +kernel
theorem dX3_agrees_31 : decode cX3_agrees 31 = .ok (.invokevirtual 59, 3) := by decide +kernel
theorem dX3_agrees_34 : decode cX3_agrees 34 = .ok (.iload_n 3, 1) := by decide +kernel
theorem dX3_agrees_35 : decode cX3_agrees 35 = .ok (.invokevirtual 63, 3) := by decide +kernel
theorem dX3_agrees_38 : decode cX3_agrees 38 = .ok (.aload_n 0, 1) := by decide +kernel
theorem dX3_agrees_39 : decode cX3_agrees 39 = .ok (.getfield 15, 3) := by decide +kernel
theorem dX3_agrees_42 : decode cX3_agrees 42 = .ok (.iload 5, 2) := by decide +kernel
theorem dX3_agrees_44 : decode cX3_agrees 44 = .ok (.iaload, 1) := by decide +kernel
theorem dX3_agrees_45 : decode cX3_agrees 45 = .ok (.if_icmp .eq 5, 3) := by decide +kernel
theorem dX3_agrees_48 : decode cX3_agrees 48 = .ok (.iconst 0, 1) := by decide +kernel
theorem dX3_agrees_49 : decode cX3_agrees 49 = .ok (.ireturn, 1) := by decide +kernel
theorem dX3_agrees_50 : decode cX3_agrees 50 = .ok (.iinc 5 1, 3) := by decide +kernel
theorem dX3_agrees_53 : decode cX3_agrees 53 = .ok (.goto (-50), 3) := by decide +kernel
theorem dX3_agrees_56 : decode cX3_agrees 56 = .ok (.iconst 1, 1) := by decide +kernel
theorem dX3_agrees_57 : decode cX3_agrees 57 = .ok (.ireturn, 1) := by decide +kernel
def R_X3_agrees (a3 : Int32) (a4 : Int32) (σ : kS) (x : Int32) (τ : kS) : Prop := Run SX jX3_agrees [(.ref 34), (.ref 3), (.ref 27), (.int a3), (.int a4)] σ (some (.int x)) τ
def E_X3_agrees_3 (l3 : Int32) (l4 : Int32) (l5 : Int32) (σ : kS) (x : Int32) (τ : kS) : Prop := Ex SX jX3_agrees 3 [some (.ref 34), some (.ref 3), some (.ref 27), some (.int l3), some (.int l4), some (.int l5)] [] σ (some (.int x)) τ
set_option maxRecDepth 20000 in
theorem t_X3_agrees {a3 : Int32} {a4 : Int32} {σ : kS} {x : Int32} {τ : kS}  (h : E_X3_agrees_3 a3 a4 (0 : Int32) σ x τ) : R_X3_agrees a3 a4 σ x τ := by
  refine x_run [some (.ref 34), some (.ref 3), some (.ref 27), some (.int a3), some (.int a4), none] (by decide +kernel) rfl (Nat.le_of_ble_eq_true rfl) ?_
  refine x_iconst (pc := 0) (0 : Int32) dX3_agrees_0 (by decide +kernel) ?_
  refine x_istore (pc := 1) dX3_agrees_1 (by decide) rfl ?_
  exact h
set_option maxRecDepth 20000 in
theorem t_X3_agrees_3 {l3 : Int32} {l4 : Int32} {l5 : Int32} {σ : kS} {x : Int32} {τ : kS}  (h : (l4 ≤ l5 → x = (1 : Int32) ∧ τ = σ) ∧ (¬ l4 ≤ l5 → vp_in l5 6 ∧ (vp_in (σ.1 35 l5.toNatClampNeg) 5 ∧ (vp_in l5 6 ∧ (∃ (x6 : Int32) (s5 : kS), R_X7_range 3 (σ.1 35 l5.toNatClampNeg) σ x6 s5 ∧ (∃ (x8 : Int32) (s7 : kS), R_X1_alone (σ.1 6 (σ.1 35 l5.toNatClampNeg).toNatClampNeg) x6 l3 s5 x8 s7 ∧ (vp_in l5 6 ∧ ((x8 = (s7.1 36 l5.toNatClampNeg) → E_X3_agrees_3 l3 l4 (l5 + (1 : Int32)) s7 x τ) ∧ (¬ x8 = (s7.1 36 l5.toNatClampNeg) → x = (0 : Int32) ∧ τ = s7))))))))) : E_X3_agrees_3 l3 l4 l5 σ x τ := by
  unfold E_X3_agrees_3
  refine x_iload (pc := 3) dX3_agrees_3 rfl ?_
  refine x_iload (pc := 5) dX3_agrees_5 rfl ?_
  refine x_icmp_ge (pc := 7) 56 dX3_agrees_7 (by decide) (fun c1 => ?_) (fun c1 => ?_)
  · replace h := h.1 c1
    refine x_iconst (pc := 56) (1 : Int32) dX3_agrees_56 (by decide +kernel) ?_
    exact x_zreturn2 (pc := 57) dX3_agrees_57 rfl rfl h.1 h.2
  · replace h := h.2 c1
    refine x_aload_n (pc := 10) 2 dX3_agrees_10 rfl rfl ?_
    refine x_aload_n (pc := 11) 1 dX3_agrees_11 rfl rfl ?_
    refine x_getR (pc := 12) dX3_agrees_12 fX3_54 rfl rfl ?_
    refine x_aload_n (pc := 15) 0 dX3_agrees_15 rfl rfl ?_
    refine x_getR (pc := 16) dX3_agrees_16 fX3_9 rfl rfl ?_
    refine x_iload (pc := 19) dX3_agrees_19 rfl ?_
    obtain ⟨g2, h⟩ := h
    refine x_iaload (pc := 21) (n := 6) dX3_agrees_21 rfl g2 ?_
    obtain ⟨g3, h⟩ := h
    refine x_iaload (pc := 22) (n := 5) dX3_agrees_22 rfl g3 ?_
    refine x_aload_n (pc := 23) 1 dX3_agrees_23 rfl rfl ?_
    refine x_aload_n (pc := 24) 0 dX3_agrees_24 rfl rfl ?_
    refine x_getR (pc := 25) dX3_agrees_25 fX3_9 rfl rfl ?_
    refine x_iload (pc := 28) dX3_agrees_28 rfl ?_
    obtain ⟨g4, h⟩ := h
    refine x_iaload (pc := 30) (n := 6) dX3_agrees_30 rfl g4 ?_
    obtain ⟨x6, s5, hr, h⟩ := h
    refine x_callV (pc := 31) [(.int (σ.1 35 l5.toNatClampNeg))] [(.int (σ.1 6 (σ.1 35 l5.toNatClampNeg).toNatClampNeg)), (.ref 27)] dX3_agrees_31 ⟨⟨hX7_range.1, hX7_range.2.1, hX7_range.2.2, by decide⟩, mX3_59, vX7_range.1, vX7_range.2⟩ (ci := 7) rfl rfl rfl rfl (Nat.le_of_ble_eq_true rfl) hr ?_
    refine x_iload_n (pc := 34) 3 dX3_agrees_34 rfl rfl ?_
    obtain ⟨x8, s7, hr, h⟩ := h
    refine x_callV (pc := 35) [(.int (σ.1 6 (σ.1 35 l5.toNatClampNeg).toNatClampNeg)), (.int x6), (.int l3)] [] dX3_agrees_35 ⟨⟨hX1_alone.1, hX1_alone.2.1, hX1_alone.2.2, by decide⟩, mX3_63, vX1_alone.1, vX1_alone.2⟩ (ci := 1) rfl rfl rfl rfl (Nat.le_of_ble_eq_true rfl) hr ?_
    refine x_aload_n (pc := 38) 0 dX3_agrees_38 rfl rfl ?_
    refine x_getR (pc := 39) dX3_agrees_39 fX3_15 rfl rfl ?_
    refine x_iload (pc := 42) dX3_agrees_42 rfl ?_
    obtain ⟨g9, h⟩ := h
    refine x_iaload (pc := 44) (n := 6) dX3_agrees_44 rfl g9 ?_
    refine x_icmp_eq (pc := 45) 50 dX3_agrees_45 (by decide) (fun c10 => ?_) (fun c10 => ?_)
    · replace h := h.1 c10
      refine x_iinc (pc := 50) (1 : Int32) dX3_agrees_50 (by decide) rfl rfl (by decide +kernel) ?_
      refine x_goto (pc := 53) 3 dX3_agrees_53 (by decide) ?_
      exact h
    · replace h := h.2 c10
      refine x_iconst (pc := 48) (0 : Int32) dX3_agrees_48 (by decide +kernel) ?_
      exact x_zreturn2 (pc := 49) dX3_agrees_49 rfl rfl h.1 h.2
theorem dX3_sort_0 : decode cX3_sort 0 = .ok (.iconst 0, 1) := by decide +kernel
theorem dX3_sort_1 : decode cX3_sort 1 = .ok (.istore 4, 2) := by decide +kernel
theorem dX3_sort_3 : decode cX3_sort 3 = .ok (.iload 4, 2) := by decide +kernel
theorem dX3_sort_5 : decode cX3_sort 5 = .ok (.aload_n 1, 1) := by decide +kernel
theorem dX3_sort_6 : decode cX3_sort 6 = .ok (.getfield 69, 3) := by decide +kernel
theorem dX3_sort_9 : decode cX3_sort 9 = .ok (.if_icmp .ge 46, 3) := by decide +kernel
theorem dX3_sort_12 : decode cX3_sort 12 = .ok (.aload_n 2, 1) := by decide +kernel
theorem dX3_sort_13 : decode cX3_sort 13 = .ok (.aload_n 1, 1) := by decide +kernel
theorem dX3_sort_14 : decode cX3_sort 14 = .ok (.getfield 54, 3) := by decide +kernel
theorem dX3_sort_17 : decode cX3_sort 17 = .ok (.iload 4, 2) := by decide +kernel
theorem dX3_sort_19 : decode cX3_sort 19 = .ok (.iaload, 1) := by decide +kernel
theorem dX3_sort_20 : decode cX3_sort 20 = .ok (.aload_n 1, 1) := by decide +kernel
theorem dX3_sort_21 : decode cX3_sort 21 = .ok (.iload 4, 2) := by decide +kernel
theorem dX3_sort_23 : decode cX3_sort 23 = .ok (.invokevirtual 59, 3) := by decide +kernel
theorem dX3_sort_26 : decode cX3_sort 26 = .ok (.iload_n 3, 1) := by decide +kernel
theorem dX3_sort_27 : decode cX3_sort 27 = .ok (.invokevirtual 63, 3) := by decide +kernel
theorem dX3_sort_30 : decode cX3_sort 30 = .ok (.istore 5, 2) := by decide +kernel
theorem dX3_sort_32 : decode cX3_sort 32 = .ok (.aload_n 0, 1) := by decide +kernel
theorem dX3_sort_33 : decode cX3_sort 33 = .ok (.getfield 18, 3) := by decide +kernel
theorem dX3_sort_36 : decode cX3_sort 36 = .ok (.iload 4, 2) := by decide +kernel
theorem dX3_sort_38 : decode cX3_sort 38 = .ok (.bipush 13, 2) := by decide +kernel
theorem dX3_sort_40 : decode cX3_sort 40 = .ok (.imul, 1) := by decide +kernel
theorem dX3_sort_41 : decode cX3_sort 41 = .ok (.iload 5, 2) := by decide +kernel
theorem dX3_sort_43 : decode cX3_sort 43 = .ok (.iadd, 1) := by decide +kernel
theorem dX3_sort_44 : decode cX3_sort 44 = .ok (.dup2, 1) := by decide +kernel
theorem dX3_sort_45 : decode cX3_sort 45 = .ok (.iaload, 1) := by decide +kernel
theorem dX3_sort_46 : decode cX3_sort 46 = .ok (.iconst 1, 1) := by decide +kernel
theorem dX3_sort_47 : decode cX3_sort 47 = .ok (.iadd, 1) := by decide +kernel
theorem dX3_sort_48 : decode cX3_sort 48 = .ok (.iastore, 1) := by decide +kernel
theorem dX3_sort_49 : decode cX3_sort 49 = .ok (.iinc 4 1, 3) := by decide +kernel
theorem dX3_sort_52 : decode cX3_sort 52 = .ok (.goto (-49), 3) := by decide +kernel
theorem dX3_sort_55 : decode cX3_sort 55 = .ok (.return_, 1) := by decide +kernel
def R_X3_sort (a3 : Int32) (σ : kS) (τ : kS) : Prop := Run SX jX3_sort [(.ref 34), (.ref 3), (.ref 27), (.int a3)] σ none τ
def E_X3_sort_3 (l3 : Int32) (l4 : Int32) (σ : kS) (τ : kS) : Prop := Ex SX jX3_sort 3 [some (.ref 34), some (.ref 3), some (.ref 27), some (.int l3), some (.int l4), none] [] σ none τ
set_option maxRecDepth 20000 in
theorem t_X3_sort {a3 : Int32} {σ : kS} {τ : kS}  (h : E_X3_sort_3 a3 (0 : Int32) σ τ) : R_X3_sort a3 σ τ := by
  refine x_run [some (.ref 34), some (.ref 3), some (.ref 27), some (.int a3), none, none] (by decide +kernel) rfl (Nat.le_of_ble_eq_true rfl) ?_
  refine x_iconst (pc := 0) (0 : Int32) dX3_sort_0 (by decide +kernel) ?_
  refine x_istore (pc := 1) dX3_sort_1 (by decide) rfl ?_
  exact h
set_option maxRecDepth 20000 in
theorem t_X3_sort_3 {l3 : Int32} {l4 : Int32} {σ : kS} {τ : kS}  (h : ((σ.1 3 2) ≤ l4 → τ = σ) ∧ (¬ (σ.1 3 2) ≤ l4 → vp_in l4 5 ∧ (∃ (x4 : Int32) (s3 : kS), R_X7_range 3 l4 σ x4 s3 ∧ (∃ (x6 : Int32) (s5 : kS), R_X1_alone (σ.1 6 l4.toNatClampNeg) x4 l3 s3 x6 s5 ∧ (vp_in ((l4 * (13 : Int32)) + x6) 65 ∧ (vp_in ((l4 * (13 : Int32)) + x6) 65 ∧ (E_X3_sort_3 l3 (l4 + (1 : Int32)) (k_si s5 37 ((l4 * (13 : Int32)) + x6).toNatClampNeg ((s5.1 37 ((l4 * (13 : Int32)) + x6).toNatClampNeg) + (1 : Int32))) τ))))))) : E_X3_sort_3 l3 l4 σ τ := by
  unfold E_X3_sort_3
  refine x_iload (pc := 3) dX3_sort_3 rfl ?_
  refine x_aload_n (pc := 5) 1 dX3_sort_5 rfl rfl ?_
  refine x_getI (pc := 6) dX3_sort_6 fX3_69 rfl rfl ?_
  refine x_icmp_ge (pc := 9) 55 dX3_sort_9 (by decide) (fun c1 => ?_) (fun c1 => ?_)
  · replace h := h.1 c1
    exact x_return2 (pc := 55) dX3_sort_55 rfl h
  · replace h := h.2 c1
    refine x_aload_n (pc := 12) 2 dX3_sort_12 rfl rfl ?_
    refine x_aload_n (pc := 13) 1 dX3_sort_13 rfl rfl ?_
    refine x_getR (pc := 14) dX3_sort_14 fX3_54 rfl rfl ?_
    refine x_iload (pc := 17) dX3_sort_17 rfl ?_
    obtain ⟨g2, h⟩ := h
    refine x_iaload (pc := 19) (n := 5) dX3_sort_19 rfl g2 ?_
    refine x_aload_n (pc := 20) 1 dX3_sort_20 rfl rfl ?_
    refine x_iload (pc := 21) dX3_sort_21 rfl ?_
    obtain ⟨x4, s3, hr, h⟩ := h
    refine x_callV (pc := 23) [(.int l4)] [(.int (σ.1 6 l4.toNatClampNeg)), (.ref 27)] dX3_sort_23 ⟨⟨hX7_range.1, hX7_range.2.1, hX7_range.2.2, by decide⟩, mX3_59, vX7_range.1, vX7_range.2⟩ (ci := 7) rfl rfl rfl rfl (Nat.le_of_ble_eq_true rfl) hr ?_
    refine x_iload_n (pc := 26) 3 dX3_sort_26 rfl rfl ?_
    obtain ⟨x6, s5, hr, h⟩ := h
    refine x_callV (pc := 27) [(.int (σ.1 6 l4.toNatClampNeg)), (.int x4), (.int l3)] [] dX3_sort_27 ⟨⟨hX1_alone.1, hX1_alone.2.1, hX1_alone.2.2, by decide⟩, mX3_63, vX1_alone.1, vX1_alone.2⟩ (ci := 1) rfl rfl rfl rfl (Nat.le_of_ble_eq_true rfl) hr ?_
    refine x_istore (pc := 30) dX3_sort_30 (by decide) rfl ?_
    refine x_aload_n (pc := 32) 0 dX3_sort_32 rfl rfl ?_
    refine x_getR (pc := 33) dX3_sort_33 fX3_18 rfl rfl ?_
    refine x_iload (pc := 36) dX3_sort_36 rfl ?_
    refine x_bipush (pc := 38) (13 : Int32) dX3_sort_38 (by decide +kernel) ?_
    refine x_imul (pc := 40) dX3_sort_40 ?_
    refine x_iload (pc := 41) dX3_sort_41 rfl ?_
    refine x_iadd (pc := 43) dX3_sort_43 ?_
    refine x_dup2 (pc := 44) dX3_sort_44 rfl rfl ?_
    obtain ⟨g7, h⟩ := h
    refine x_iaload (pc := 45) (n := 65) dX3_sort_45 rfl g7 ?_
    refine x_iconst (pc := 46) (1 : Int32) dX3_sort_46 (by decide +kernel) ?_
    refine x_iadd (pc := 47) dX3_sort_47 ?_
    obtain ⟨g8, h⟩ := h
    refine x_iastore (pc := 48) (n := 65) dX3_sort_48 rfl g8 ?_
    refine x_iinc (pc := 49) (1 : Int32) dX3_sort_49 (by decide) rfl rfl (by decide +kernel) ?_
    refine x_goto (pc := 52) 3 dX3_sort_52 (by decide) ?_
    exact x_mask [true, true, true, true, true, false] h
theorem dX3_listen_0 : decode cX3_listen 0 = .ok (.iconst 0, 1) := by decide +kernel
theorem dX3_listen_1 : decode cX3_listen 1 = .ok (.istore 6, 2) := by decide +kernel
theorem dX3_listen_3 : decode cX3_listen 3 = .ok (.iload 6, 2) := by decide +kernel
theorem dX3_listen_5 : decode cX3_listen 5 = .ok (.iload 5, 2) := by decide +kernel
theorem dX3_listen_7 : decode cX3_listen 7 = .ok (.if_icmp .ge 51, 3) := by decide +kernel
theorem dX3_listen_10 : decode cX3_listen 10 = .ok (.aload_n 0, 1) := by decide +kernel
theorem dX3_listen_11 : decode cX3_listen 11 = .ok (.getfield 9, 3) := by decide +kernel
theorem dX3_listen_14 : decode cX3_listen 14 = .ok (.iload 6, 2) := by decide +kernel
theorem dX3_listen_16 : decode cX3_listen 16 = .ok (.aload_n 3, 1) := by decide +kernel
theorem dX3_listen_17 : decode cX3_listen 17 = .ok (.getfield 21, 3) := by decide +kernel
theorem dX3_listen_20 : decode cX3_listen 20 = .ok (.iload 4, 2) := by decide +kernel
theorem dX3_listen_22 : decode cX3_listen 22 = .ok (.iconst 2, 1) := by decide +kernel
theorem dX3_listen_23 : decode cX3_listen 23 = .ok (.iload 6, 2) := by decide +kernel
theorem dX3_listen_25 : decode cX3_listen 25 = .ok (.imul, 1) := by decide +kernel
theorem dX3_listen_26 : decode cX3_listen 26 = .ok (.iadd, 1) := by decide +kernel
theorem dX3_listen_27 : decode cX3_listen 27 = .ok (.laload, 1) := by decide +kernel
theorem dX3_listen_28 : decode cX3_listen 28 = .ok (.l2i, 1) := by decide +kernel
theorem dX3_listen_29 : decode cX3_listen 29 = .ok (.iastore, 1) := by decide +kernel
theorem dX3_listen_30 : decode cX3_listen 30 = .ok (.aload_n 0, 1) := by decide +kernel
theorem dX3_listen_31 : decode cX3_listen 31 = .ok (.getfield 15, 3) := by decide +kernel
theorem dX3_listen_34 : decode cX3_listen 34 = .ok (.iload 6, 2) := by decide +kernel
theorem dX3_listen_36 : decode cX3_listen 36 = .ok (.aload_n 3, 1) := by decide +kernel
theorem dX3_listen_37 : decode cX3_listen 37 = .ok (.getfield 21, 3) := by decide +kernel
theorem dX3_listen_40 : decode cX3_listen 40 = .ok (.iload 4, 2) := by decide +kernel
theorem dX3_listen_42 : decode cX3_listen 42 = .ok (.iconst 2, 1) := by decide +kernel
theorem dX3_listen_43 : decode cX3_listen 43 = .ok (.iload 6, 2) := by decide +kernel
theorem dX3_listen_45 : decode cX3_listen 45 = .ok (.imul, 1) := by decide +kernel
theorem dX3_listen_46 : decode cX3_listen 46 = .ok (.iadd, 1) := by decide +kernel
theorem dX3_listen_47 : decode cX3_listen 47 = .ok (.iconst 1, 1) := by decide +kernel
theorem dX3_listen_48 : decode cX3_listen 48 = .ok (.iadd, 1) := by decide +kernel
theorem dX3_listen_49 : decode cX3_listen 49 = .ok (.laload, 1) := by decide +kernel
theorem dX3_listen_50 : decode cX3_listen 50 = .ok (.l2i, 1) := by decide +kernel
theorem dX3_listen_51 : decode cX3_listen 51 = .ok (.iastore, 1) := by decide +kernel
theorem dX3_listen_52 : decode cX3_listen 52 = .ok (.iinc 6 1, 3) := by decide +kernel
theorem dX3_listen_55 : decode cX3_listen 55 = .ok (.goto (-52), 3) := by decide +kernel
theorem dX3_listen_58 : decode cX3_listen 58 = .ok (.aload_n 0, 1) := by decide +kernel
theorem dX3_listen_59 : decode cX3_listen 59 = .ok (.iconst 0, 1) := by decide +kernel
theorem dX3_listen_60 : decode cX3_listen 60 = .ok (.putfield 27, 3) := by decide +kernel
theorem dX3_listen_63 : decode cX3_listen 63 = .ok (.aload_n 0, 1) := by decide +kernel
theorem dX3_listen_64 : decode cX3_listen 64 = .ok (.iconst 0, 1) := by decide +kernel
theorem dX3_listen_65 : decode cX3_listen 65 = .ok (.putfield 31, 3) := by decide +kernel
theorem dX3_listen_68 : decode cX3_listen 68 = .ok (.aload_n 0, 1) := by decide +kernel
theorem dX3_listen_69 : decode cX3_listen 69 = .ok (.getfield 18, 3) := by decide +kernel
theorem dX3_listen_72 : decode cX3_listen 72 = .ok (.iconst 0, 1) := by decide +kernel
theorem dX3_listen_73 : decode cX3_listen 73 = .ok (.invokestatic 34, 3) := by decide +kernel
theorem dX3_listen_76 : decode cX3_listen 76 = .ok (.iconst 1, 1) := by decide +kernel
theorem dX3_listen_77 : decode cX3_listen 77 = .ok (.istore 6, 2) := by decide +kernel
theorem dX3_listen_79 : decode cX3_listen 79 = .ok (.iload 6, 2) := by decide +kernel
theorem dX3_listen_81 : decode cX3_listen 81 = .ok (.sipush 4096, 3) := by decide +kernel
theorem dX3_listen_84 : decode cX3_listen 84 = .ok (.if_icmp .ge 60, 3) := by decide +kernel
theorem dX3_listen_87 : decode cX3_listen 87 = .ok (.aload_n 0, 1) := by decide +kernel
theorem dX3_listen_88 : decode cX3_listen 88 = .ok (.aload_n 1, 1) := by decide +kernel
theorem dX3_listen_89 : decode cX3_listen 89 = .ok (.aload_n 2, 1) := by decide +kernel
theorem dX3_listen_90 : decode cX3_listen 90 = .ok (.iload 6, 2) := by decide +kernel
theorem dX3_listen_92 : decode cX3_listen 92 = .ok (.iload 5, 2) := by decide +kernel
theorem dX3_listen_94 : decode cX3_listen 94 = .ok (.invokevirtual 40, 3) := by decide +kernel
theorem dX3_listen_97 : decode cX3_listen 97 = .ok (.ifCond .eq 41, 3) := by decide +kernel
theorem dX3_listen_100 : decode cX3_listen 100 = .ok (.aload_n 0, 1) := by decide +kernel
theorem dX3_listen_101 : decode cX3_listen 101 = .ok (.aload_n 0, 1) := by decide +kernel
theorem dX3_listen_102 : decode cX3_listen 102 = .ok (.getfield 27, 3) := by decide +kernel
theorem dX3_listen_105 : decode cX3_listen 105 = .ok (.ifCond .ne 8, 3) := by decide +kernel
theorem dX3_listen_108 : decode cX3_listen 108 = .ok (.iload 6, 2) := by decide +kernel
theorem dX3_listen_110 : decode cX3_listen 110 = .ok (.goto 7, 3) := by decide +kernel
theorem dX3_listen_113 : decode cX3_listen 113 = .ok (.aload_n 0, 1) := by decide +kernel
theorem dX3_listen_114 : decode cX3_listen 114 = .ok (.getfield 31, 3) := by decide +kernel
theorem dX3_listen_117 : decode cX3_listen 117 = .ok (.putfield 31, 3) := by decide +kernel
theorem dX3_listen_120 : decode cX3_listen 120 = .ok (.aload_n 0, 1) := by decide +kernel
theorem dX3_listen_121 : decode cX3_listen 121 = .ok (.dup, 1) := by decide +kernel
theorem dX3_listen_122 : decode cX3_listen 122 = .ok (.getfield 27, 3) := by decide +kernel
theorem dX3_listen_125 : decode cX3_listen 125 = .ok (.iconst 1, 1) := by decide +kernel
theorem dX3_listen_126 : decode cX3_listen 126 = .ok (.iadd, 1) := by decide +kernel
theorem dX3_listen_127 : decode cX3_listen 127 = .ok (.putfield 27, 3) := by decide +kernel
theorem dX3_listen_130 : decode cX3_listen 130 = .ok (.aload_n 0, 1) := by decide +kernel
theorem dX3_listen_131 : decode cX3_listen 131 = .ok (.aload_n 1, 1) := by decide +kernel
theorem dX3_listen_132 : decode cX3_listen 132 = .ok (.aload_n 2, 1) := by decide +kernel
theorem dX3_listen_133 : decode cX3_listen 133 = .ok (.iload 6, 2) := by decide +kernel
theorem dX3_listen_135 : decode cX3_listen 135 = .ok (.invokevirtual 44, 3) := by decide +kernel
theorem dX3_listen_138 : decode cX3_listen 138 = .ok (.iinc 6 1, 3) := by decide +kernel
theorem dX3_listen_141 : decode cX3_listen 141 = .ok (.goto (-62), 3) := by decide +kernel
theorem dX3_listen_144 : decode cX3_listen 144 = .ok (.return_, 1) := by decide +kernel
def R_X3_listen (s : Nat) (a4 : Int32) (a5 : Int32) (σ : kS) (τ : kS) : Prop := Run SX jX3_listen [(.ref 34), (.ref 3), (.ref 27), (.ref s), (.int a4), (.int a5)] σ none τ
def E_X3_listen_3 (s : Nat) (l4 : Int32) (l5 : Int32) (l6 : Int32) (σ : kS) (τ : kS) : Prop := Ex SX jX3_listen 3 [some (.ref 34), some (.ref 3), some (.ref 27), some (.ref s), some (.int l4), some (.int l5), some (.int l6)] [] σ none τ
def E_X3_listen_79 (l5 : Int32) (l6 : Int32) (σ : kS) (τ : kS) : Prop := Ex SX jX3_listen 79 [some (.ref 34), some (.ref 3), some (.ref 27), none, none, some (.int l5), some (.int l6)] [] σ none τ
def E_X3_listen_117 (l5 : Int32) (l6 : Int32) (y0 : Int32) (σ : kS) (τ : kS) : Prop := Ex SX jX3_listen 117 [some (.ref 34), some (.ref 3), some (.ref 27), none, none, some (.int l5), some (.int l6)] [(.int y0), (.ref 34)] σ none τ
set_option maxRecDepth 20000 in
theorem t_X3_listen {s : Nat} {a4 : Int32} {a5 : Int32} {σ : kS} {τ : kS} (hs : k_sht s = true) (h : E_X3_listen_3 s a4 a5 (0 : Int32) σ τ) : R_X3_listen s a4 a5 σ τ := by
  refine x_run [some (.ref 34), some (.ref 3), some (.ref 27), some (.ref s), some (.int a4), some (.int a5), none] (by decide +kernel) rfl (Nat.le_of_ble_eq_true rfl) ?_
  refine x_iconst (pc := 0) (0 : Int32) dX3_listen_0 (by decide +kernel) ?_
  refine x_istore (pc := 1) dX3_listen_1 (by decide) rfl ?_
  exact h
set_option maxRecDepth 20000 in
theorem t_X3_listen_3 {s : Nat} {l4 : Int32} {l5 : Int32} {l6 : Int32} {σ : kS} {τ : kS} (hs : k_sht s = true) (h : (l5 ≤ l6 → ∃ s2 : kS, R_J7_fill_53178 37 65 (0 : Int32) (k_si (k_si σ 34 0 (0 : Int32)) 34 1 (0 : Int32)) s2 ∧ (E_X3_listen_79 l5 (1 : Int32) s2 τ)) ∧ (¬ l5 ≤ l6 → vp_in (l4 + ((2 : Int32) * l6)) 24 ∧ (vp_in l6 6 ∧ (vp_in ((l4 + ((2 : Int32) * l6)) + (1 : Int32)) 24 ∧ (vp_in l6 6 ∧ (E_X3_listen_3 s l4 l5 (l6 + (1 : Int32)) (k_si (k_si σ 35 l6.toNatClampNeg (σ.2 (s + 1) (l4 + ((2 : Int32) * l6)).toNatClampNeg).toInt32) 36 l6.toNatClampNeg (σ.2 (s + 1) ((l4 + ((2 : Int32) * l6)) + (1 : Int32)).toNatClampNeg).toInt32) τ)))))) : E_X3_listen_3 s l4 l5 l6 σ τ := by
  unfold E_X3_listen_3
  refine x_iload (pc := 3) dX3_listen_3 rfl ?_
  refine x_iload (pc := 5) dX3_listen_5 rfl ?_
  refine x_icmp_ge (pc := 7) 58 dX3_listen_7 (by decide) (fun c1 => ?_) (fun c1 => ?_)
  · replace h := h.1 c1
    refine x_aload_n (pc := 58) 0 dX3_listen_58 rfl rfl ?_
    refine x_iconst (pc := 59) (0 : Int32) dX3_listen_59 (by decide +kernel) ?_
    refine x_putI (pc := 60) dX3_listen_60 pX3_27 rfl rfl ?_
    refine x_aload_n (pc := 63) 0 dX3_listen_63 rfl rfl ?_
    refine x_iconst (pc := 64) (0 : Int32) dX3_listen_64 (by decide +kernel) ?_
    refine x_putI (pc := 65) dX3_listen_65 pX3_31 rfl rfl ?_
    refine x_aload_n (pc := 68) 0 dX3_listen_68 rfl rfl ?_
    refine x_getR (pc := 69) dX3_listen_69 fX3_18 rfl rfl ?_
    refine x_iconst (pc := 72) (0 : Int32) dX3_listen_72 (by decide +kernel) ?_
    obtain ⟨s2, hr, h⟩ := h
    refine x_callS (pc := 73) [(.ref 37), (.int (0 : Int32))] [] dX3_listen_73 ⟨⟨hJ7_fill_53178.1, hJ7_fill_53178.2.1, hJ7_fill_53178.2.2, by decide⟩, mX3_34, sJ7_fill_53178⟩ rfl rfl (Nat.le_of_ble_eq_true rfl) hr ?_
    refine x_iconst (pc := 76) (1 : Int32) dX3_listen_76 (by decide +kernel) ?_
    refine x_istore (pc := 77) dX3_listen_77 (by decide) rfl ?_
    exact x_mask [true, true, true, false, false, true, true] h
  · replace h := h.2 c1
    refine x_aload_n (pc := 10) 0 dX3_listen_10 rfl rfl ?_
    refine x_getR (pc := 11) dX3_listen_11 fX3_9 rfl rfl ?_
    refine x_iload (pc := 14) dX3_listen_14 rfl ?_
    refine x_aload_n (pc := 16) 3 dX3_listen_16 rfl rfl ?_
    refine x_getR (pc := 17) dX3_listen_17 fX3_21 (sh_is hs) (sh_r hs) ?_
    refine x_iload (pc := 20) dX3_listen_20 rfl ?_
    refine x_iconst (pc := 22) (2 : Int32) dX3_listen_22 (by decide +kernel) ?_
    refine x_iload (pc := 23) dX3_listen_23 rfl ?_
    refine x_imul (pc := 25) dX3_listen_25 ?_
    refine x_iadd (pc := 26) dX3_listen_26 ?_
    obtain ⟨g3, h⟩ := h
    refine x_laload (pc := 27) (n := 24) dX3_listen_27 (sh_a hs) g3 ?_
    refine x_l2i (pc := 28) dX3_listen_28 ?_
    obtain ⟨g4, h⟩ := h
    refine x_iastore (pc := 29) (n := 6) dX3_listen_29 rfl g4 ?_
    refine x_aload_n (pc := 30) 0 dX3_listen_30 rfl rfl ?_
    refine x_getR (pc := 31) dX3_listen_31 fX3_15 rfl rfl ?_
    refine x_iload (pc := 34) dX3_listen_34 rfl ?_
    refine x_aload_n (pc := 36) 3 dX3_listen_36 rfl rfl ?_
    refine x_getR (pc := 37) dX3_listen_37 fX3_21 (sh_is hs) (sh_r hs) ?_
    refine x_iload (pc := 40) dX3_listen_40 rfl ?_
    refine x_iconst (pc := 42) (2 : Int32) dX3_listen_42 (by decide +kernel) ?_
    refine x_iload (pc := 43) dX3_listen_43 rfl ?_
    refine x_imul (pc := 45) dX3_listen_45 ?_
    refine x_iadd (pc := 46) dX3_listen_46 ?_
    refine x_iconst (pc := 47) (1 : Int32) dX3_listen_47 (by decide +kernel) ?_
    refine x_iadd (pc := 48) dX3_listen_48 ?_
    obtain ⟨g5, h⟩ := h
    refine x_laload (pc := 49) (n := 24) dX3_listen_49 (sh_a hs) g5 ?_
    refine x_l2i (pc := 50) dX3_listen_50 ?_
    obtain ⟨g6, h⟩ := h
    refine x_iastore (pc := 51) (n := 6) dX3_listen_51 rfl g6 ?_
    refine x_iinc (pc := 52) (1 : Int32) dX3_listen_52 (by decide) rfl rfl (by decide +kernel) ?_
    refine x_goto (pc := 55) 3 dX3_listen_55 (by decide) ?_
    exact h
set_option maxRecDepth 20000 in
theorem t_X3_listen_79 {l5 : Int32} {l6 : Int32} {σ : kS} {τ : kS}  (h : ((4096 : Int32) ≤ l6 → τ = σ) ∧ (¬ (4096 : Int32) ≤ l6 → ∃ (x3 : Int32) (s2 : kS), R_X3_agrees l6 l5 σ x3 s2 ∧ ((x3 = 0 → E_X3_listen_79 l5 (l6 + (1 : Int32)) s2 τ) ∧ (¬ x3 = 0 → (¬ (s2.1 34 0) = 0 → E_X3_listen_117 l5 l6 (s2.1 34 1) s2 τ) ∧ ((s2.1 34 0) = 0 → E_X3_listen_117 l5 l6 l6 s2 τ))))) : E_X3_listen_79 l5 l6 σ τ := by
  unfold E_X3_listen_79
  refine x_iload (pc := 79) dX3_listen_79 rfl ?_
  refine x_sipush (pc := 81) (4096 : Int32) dX3_listen_81 (by decide +kernel) ?_
  refine x_icmp_ge (pc := 84) 144 dX3_listen_84 (by decide) (fun c1 => ?_) (fun c1 => ?_)
  · replace h := h.1 c1
    exact x_return2 (pc := 144) dX3_listen_144 rfl h
  · replace h := h.2 c1
    refine x_aload_n (pc := 87) 0 dX3_listen_87 rfl rfl ?_
    refine x_aload_n (pc := 88) 1 dX3_listen_88 rfl rfl ?_
    refine x_aload_n (pc := 89) 2 dX3_listen_89 rfl rfl ?_
    refine x_iload (pc := 90) dX3_listen_90 rfl ?_
    refine x_iload (pc := 92) dX3_listen_92 rfl ?_
    obtain ⟨x3, s2, hr, h⟩ := h
    refine x_callV (pc := 94) [(.ref 3), (.ref 27), (.int l6), (.int l5)] [] dX3_listen_94 ⟨⟨hX3_agrees.1, hX3_agrees.2.1, hX3_agrees.2.2, by decide⟩, mX3_40, vX3_agrees.1, vX3_agrees.2⟩ (ci := 3) rfl rfl rfl rfl (Nat.le_of_ble_eq_true rfl) hr ?_
    refine x_if_eq (pc := 97) 138 dX3_listen_97 (by decide) (fun c4 => ?_) (fun c4 => ?_)
    · replace h := h.1 c4
      refine x_iinc (pc := 138) (1 : Int32) dX3_listen_138 (by decide) rfl rfl (by decide +kernel) ?_
      refine x_goto (pc := 141) 79 dX3_listen_141 (by decide) ?_
      exact h
    · replace h := h.2 c4
      refine x_aload_n (pc := 100) 0 dX3_listen_100 rfl rfl ?_
      refine x_aload_n (pc := 101) 0 dX3_listen_101 rfl rfl ?_
      refine x_getI (pc := 102) dX3_listen_102 fX3_27 rfl rfl ?_
      refine x_if_ne (pc := 105) 113 dX3_listen_105 (by decide) (fun c5 => ?_) (fun c5 => ?_)
      · replace h := h.1 c5
        refine x_aload_n (pc := 113) 0 dX3_listen_113 rfl rfl ?_
        refine x_getI (pc := 114) dX3_listen_114 fX3_31 rfl rfl ?_
        exact h
      · replace h := h.2 c5
        refine x_iload (pc := 108) dX3_listen_108 rfl ?_
        refine x_goto (pc := 110) 117 dX3_listen_110 (by decide) ?_
        exact h
set_option maxRecDepth 20000 in
theorem t_X3_listen_117 {l5 : Int32} {l6 : Int32} {y0 : Int32} {σ : kS} {τ : kS}  (h : ∃ s1 : kS, R_X3_sort l6 (k_si (k_si σ 34 1 y0) 34 0 ((σ.1 34 0) + (1 : Int32))) s1 ∧ (E_X3_listen_79 l5 (l6 + (1 : Int32)) s1 τ)) : E_X3_listen_117 l5 l6 y0 σ τ := by
  unfold E_X3_listen_117
  refine x_putI (pc := 117) dX3_listen_117 pX3_31 rfl rfl ?_
  refine x_aload_n (pc := 120) 0 dX3_listen_120 rfl rfl ?_
  refine x_dup (pc := 121) dX3_listen_121 rfl ?_
  refine x_getI (pc := 122) dX3_listen_122 fX3_27 rfl rfl ?_
  refine x_iconst (pc := 125) (1 : Int32) dX3_listen_125 (by decide +kernel) ?_
  refine x_iadd (pc := 126) dX3_listen_126 ?_
  refine x_putI (pc := 127) dX3_listen_127 pX3_27 rfl rfl ?_
  refine x_aload_n (pc := 130) 0 dX3_listen_130 rfl rfl ?_
  refine x_aload_n (pc := 131) 1 dX3_listen_131 rfl rfl ?_
  refine x_aload_n (pc := 132) 2 dX3_listen_132 rfl rfl ?_
  refine x_iload (pc := 133) dX3_listen_133 rfl ?_
  obtain ⟨s1, hr, h⟩ := h
  refine x_callV (pc := 135) [(.ref 3), (.ref 27), (.int l6)] [] dX3_listen_135 ⟨⟨hX3_sort.1, hX3_sort.2.1, hX3_sort.2.2, by decide⟩, mX3_44, vX3_sort.1, vX3_sort.2⟩ (ci := 3) rfl rfl rfl rfl (Nat.le_of_ble_eq_true rfl) hr ?_
  refine x_iinc (pc := 138) (1 : Int32) dX3_listen_138 (by decide) rfl rfl (by decide +kernel) ?_
  refine x_goto (pc := 141) 79 dX3_listen_141 (by decide) ?_
  exact h
theorem dX3_bestToHear_0 : decode cX3_bestToHear 0 = .ok (.bipush (-4), 2) := by decide +kernel
theorem dX3_bestToHear_2 : decode cX3_bestToHear 2 = .ok (.istore_n 2, 1) := by decide +kernel
theorem dX3_bestToHear_3 : decode cX3_bestToHear 3 = .ok (.sipush 4096, 3) := by decide +kernel
theorem dX3_bestToHear_6 : decode cX3_bestToHear 6 = .ok (.istore_n 3, 1) := by decide +kernel
theorem dX3_bestToHear_7 : decode cX3_bestToHear 7 = .ok (.iconst 0, 1) := by decide +kernel
theorem dX3_bestToHear_8 : decode cX3_bestToHear 8 = .ok (.istore 4, 2) := by decide +kernel
theorem dX3_bestToHear_10 : decode cX3_bestToHear 10 = .ok (.iload 4, 2) := by decide +kernel
theorem dX3_bestToHear_12 : decode cX3_bestToHear 12 = .ok (.iload_n 1, 1) := by decide +kernel
theorem dX3_bestToHear_13 : decode cX3_bestToHear 13 = .ok (.if_icmp .ge 60, 3) := by decide +kernel
theorem dX3_bestToHear_16 : decode cX3_bestToHear 16 = .ok (.iconst 0, 1) := by decide +kernel
theorem dX3_bestToHear_17 : decode cX3_bestToHear 17 = .ok (.istore 5, 2) := by decide +kernel
theorem dX3_bestToHear_19 : decode cX3_bestToHear 19 = .ok (.iconst 0, 1) := by decide +kernel
theorem dX3_bestToHear_20 : decode cX3_bestToHear 20 = .ok (.istore 6, 2) := by decide +kernel
theorem dX3_bestToHear_22 : decode cX3_bestToHear 22 = .ok (.iload 6, 2) := by decide +kernel
theorem dX3_bestToHear_24 : decode cX3_bestToHear 24 = .ok (.bipush 13, 2) := by decide +kernel
theorem dX3_bestToHear_26 : decode cX3_bestToHear 26 = .ok (.if_icmp .ge 29, 3) := by decide +kernel
theorem dX3_bestToHear_29 : decode cX3_bestToHear 29 = .ok (.iload 5, 2) := by decide +kernel
theorem dX3_bestToHear_31 : decode cX3_bestToHear 31 = .ok (.aload_n 0, 1) := by decide +kernel
theorem dX3_bestToHear_32 : decode cX3_bestToHear 32 = .ok (.getfield 18, 3) := by decide +kernel
theorem dX3_bestToHear_35 : decode cX3_bestToHear 35 = .ok (.iload 4, 2) := by decide +kernel
theorem dX3_bestToHear_37 : decode cX3_bestToHear 37 = .ok (.bipush 13, 2) := by decide +kernel
theorem dX3_bestToHear_39 : decode cX3_bestToHear 39 = .ok (.imul, 1) := by decide +kernel
theorem dX3_bestToHear_40 : decode cX3_bestToHear 40 = .ok (.iload 6, 2) := by decide +kernel
theorem dX3_bestToHear_42 : decode cX3_bestToHear 42 = .ok (.iadd, 1) := by decide +kernel
theorem dX3_bestToHear_43 : decode cX3_bestToHear 43 = .ok (.iaload, 1) := by decide +kernel
theorem dX3_bestToHear_44 : decode cX3_bestToHear 44 = .ok (.invokestatic 48, 3) := by decide +kernel
theorem dX3_bestToHear_47 : decode cX3_bestToHear 47 = .ok (.istore 5, 2) := by decide +kernel
theorem dX3_bestToHear_49 : decode cX3_bestToHear 49 = .ok (.iinc 6 1, 3) := by decide +kernel
theorem dX3_bestToHear_52 : decode cX3_bestToHear 52 = .ok (.goto (-30), 3) := by decide +kernel
theorem dX3_bestToHear_55 : decode cX3_bestToHear 55 = .ok (.iload 5, 2) := by decide +kernel
theorem dX3_bestToHear_57 : decode cX3_bestToHear 57 = .ok (.iload_n 3, 1) := by decide +kernel
theorem dX3_bestToHear_58 : decode cX3_bestToHear 58 = .ok (.if_icmp .ge 9, 3) := by decide +kernel
theorem dX3_bestToHear_61 : decode cX3_bestToHear 61 = .ok (.iload 4, 2) := by decide +kernel
theorem dX3_bestToHear_63 : decode cX3_bestToHear 63 = .ok (.istore_n 2, 1) := by decide +kernel
theorem dX3_bestToHear_64 : decode cX3_bestToHear 64 = .ok (.iload 5, 2) := by decide +kernel
theorem dX3_bestToHear_66 : decode cX3_bestToHear 66 = .ok (.istore_n 3, 1) := by decide +kernel
theorem dX3_bestToHear_67 : decode cX3_bestToHear 67 = .ok (.iinc 4 1, 3) := by decide +kernel
theorem dX3_bestToHear_70 : decode cX3_bestToHear 70 = .ok (.goto (-60), 3) := by decide +kernel
theorem dX3_bestToHear_73 : decode cX3_bestToHear 73 = .ok (.iload_n 2, 1) := by decide +kernel
theorem dX3_bestToHear_74 : decode cX3_bestToHear 74 = .ok (.ireturn, 1) := by decide +kernel
def R_X3_bestToHear (a1 : Int32) (σ : kS) (x : Int32) (τ : kS) : Prop := Run SX jX3_bestToHear [(.ref 34), (.int a1)] σ (some (.int x)) τ
def E_X3_bestToHear_10 (l1 : Int32) (l2 : Int32) (l3 : Int32) (l4 : Int32) (σ : kS) (x : Int32) (τ : kS) : Prop := Ex SX jX3_bestToHear 10 [some (.ref 34), some (.int l1), some (.int l2), some (.int l3), some (.int l4), none, none] [] σ (some (.int x)) τ
def E_X3_bestToHear_22 (l1 : Int32) (l2 : Int32) (l3 : Int32) (l4 : Int32) (l5 : Int32) (l6 : Int32) (σ : kS) (x : Int32) (τ : kS) : Prop := Ex SX jX3_bestToHear 22 [some (.ref 34), some (.int l1), some (.int l2), some (.int l3), some (.int l4), some (.int l5), some (.int l6)] [] σ (some (.int x)) τ
set_option maxRecDepth 20000 in
theorem t_X3_bestToHear {a1 : Int32} {σ : kS} {x : Int32} {τ : kS}  (h : E_X3_bestToHear_10 a1 (-4 : Int32) (4096 : Int32) (0 : Int32) σ x τ) : R_X3_bestToHear a1 σ x τ := by
  refine x_run [some (.ref 34), some (.int a1), none, none, none, none, none] (by decide +kernel) rfl (Nat.le_of_ble_eq_true rfl) ?_
  refine x_bipush (pc := 0) (-4 : Int32) dX3_bestToHear_0 (by decide +kernel) ?_
  refine x_istore_n (pc := 2) 2 dX3_bestToHear_2 rfl (by decide) rfl ?_
  refine x_sipush (pc := 3) (4096 : Int32) dX3_bestToHear_3 (by decide +kernel) ?_
  refine x_istore_n (pc := 6) 3 dX3_bestToHear_6 rfl (by decide) rfl ?_
  refine x_iconst (pc := 7) (0 : Int32) dX3_bestToHear_7 (by decide +kernel) ?_
  refine x_istore (pc := 8) dX3_bestToHear_8 (by decide) rfl ?_
  exact h
set_option maxRecDepth 20000 in
theorem t_X3_bestToHear_10 {l1 : Int32} {l2 : Int32} {l3 : Int32} {l4 : Int32} {σ : kS} {x : Int32} {τ : kS}  (h : (l1 ≤ l4 → x = l2 ∧ τ = σ) ∧ (¬ l1 ≤ l4 → E_X3_bestToHear_22 l1 l2 l3 l4 (0 : Int32) (0 : Int32) σ x τ)) : E_X3_bestToHear_10 l1 l2 l3 l4 σ x τ := by
  unfold E_X3_bestToHear_10
  refine x_iload (pc := 10) dX3_bestToHear_10 rfl ?_
  refine x_iload_n (pc := 12) 1 dX3_bestToHear_12 rfl rfl ?_
  refine x_icmp_ge (pc := 13) 73 dX3_bestToHear_13 (by decide) (fun c1 => ?_) (fun c1 => ?_)
  · replace h := h.1 c1
    refine x_iload_n (pc := 73) 2 dX3_bestToHear_73 rfl rfl ?_
    exact x_ireturn2 (pc := 74) dX3_bestToHear_74 rfl h.1 h.2
  · replace h := h.2 c1
    refine x_iconst (pc := 16) (0 : Int32) dX3_bestToHear_16 (by decide +kernel) ?_
    refine x_istore (pc := 17) dX3_bestToHear_17 (by decide) rfl ?_
    refine x_iconst (pc := 19) (0 : Int32) dX3_bestToHear_19 (by decide +kernel) ?_
    refine x_istore (pc := 20) dX3_bestToHear_20 (by decide) rfl ?_
    exact h
set_option maxRecDepth 20000 in
theorem t_X3_bestToHear_22 {l1 : Int32} {l2 : Int32} {l3 : Int32} {l4 : Int32} {l5 : Int32} {l6 : Int32} {σ : kS} {x : Int32} {τ : kS}  (h : ((13 : Int32) ≤ l6 → (l3 ≤ l5 → E_X3_bestToHear_10 l1 l2 l3 (l4 + (1 : Int32)) σ x τ) ∧ (¬ l3 ≤ l5 → E_X3_bestToHear_10 l1 l4 l5 (l4 + (1 : Int32)) σ x τ)) ∧ (¬ (13 : Int32) ≤ l6 → vp_in ((l4 * (13 : Int32)) + l6) 65 ∧ (E_X3_bestToHear_22 l1 l2 l3 l4 (mx l5 (σ.1 37 ((l4 * (13 : Int32)) + l6).toNatClampNeg)) (l6 + (1 : Int32)) σ x τ))) : E_X3_bestToHear_22 l1 l2 l3 l4 l5 l6 σ x τ := by
  unfold E_X3_bestToHear_22
  refine x_iload (pc := 22) dX3_bestToHear_22 rfl ?_
  refine x_bipush (pc := 24) (13 : Int32) dX3_bestToHear_24 (by decide +kernel) ?_
  refine x_icmp_ge (pc := 26) 55 dX3_bestToHear_26 (by decide) (fun c1 => ?_) (fun c1 => ?_)
  · replace h := h.1 c1
    refine x_iload (pc := 55) dX3_bestToHear_55 rfl ?_
    refine x_iload_n (pc := 57) 3 dX3_bestToHear_57 rfl rfl ?_
    refine x_icmp_ge (pc := 58) 67 dX3_bestToHear_58 (by decide) (fun c2 => ?_) (fun c2 => ?_)
    · replace h := h.1 c2
      refine x_iinc (pc := 67) (1 : Int32) dX3_bestToHear_67 (by decide) rfl rfl (by decide +kernel) ?_
      refine x_goto (pc := 70) 10 dX3_bestToHear_70 (by decide) ?_
      exact x_mask [true, true, true, true, true, false, false] h
    · replace h := h.2 c2
      refine x_iload (pc := 61) dX3_bestToHear_61 rfl ?_
      refine x_istore_n (pc := 63) 2 dX3_bestToHear_63 rfl (by decide) rfl ?_
      refine x_iload (pc := 64) dX3_bestToHear_64 rfl ?_
      refine x_istore_n (pc := 66) 3 dX3_bestToHear_66 rfl (by decide) rfl ?_
      refine x_iinc (pc := 67) (1 : Int32) dX3_bestToHear_67 (by decide) rfl rfl (by decide +kernel) ?_
      refine x_goto (pc := 70) 10 dX3_bestToHear_70 (by decide) ?_
      exact x_mask [true, true, true, true, true, false, false] h
  · replace h := h.2 c1
    refine x_iload (pc := 29) dX3_bestToHear_29 rfl ?_
    refine x_aload_n (pc := 31) 0 dX3_bestToHear_31 rfl rfl ?_
    refine x_getR (pc := 32) dX3_bestToHear_32 fX3_18 rfl rfl ?_
    refine x_iload (pc := 35) dX3_bestToHear_35 rfl ?_
    refine x_bipush (pc := 37) (13 : Int32) dX3_bestToHear_37 (by decide +kernel) ?_
    refine x_imul (pc := 39) dX3_bestToHear_39 ?_
    refine x_iload (pc := 40) dX3_bestToHear_40 rfl ?_
    refine x_iadd (pc := 42) dX3_bestToHear_42 ?_
    obtain ⟨g3, h⟩ := h
    refine x_iaload (pc := 43) (n := 65) dX3_bestToHear_43 rfl g3 ?_
    refine x_callS (pc := 44) [(.int l5), (.int (σ.1 37 ((l4 * (13 : Int32)) + l6).toNatClampNeg))] [] dX3_bestToHear_44 ⟨⟨hJ9_max_7cf53.1, hJ9_max_7cf53.2.1, hJ9_max_7cf53.2.2, by decide⟩, mX3_48, sJ9_max_7cf53⟩ rfl rfl (Nat.le_of_ble_eq_true rfl) (i_max) ?_
    refine x_istore (pc := 47) dX3_bestToHear_47 (by decide) rfl ?_
    refine x_iinc (pc := 49) (1 : Int32) dX3_bestToHear_49 (by decide) rfl rfl (by decide +kernel) ?_
    refine x_goto (pc := 52) 22 dX3_bestToHear_52 (by decide) ?_
    exact h
theorem dJ7_fill_d0a16_0 : decode cJ7_fill_d0a16 0 = .ok (.iconst 0, 1) := by decide +kernel
theorem dJ7_fill_d0a16_1 : decode cJ7_fill_d0a16 1 = .ok (.istore_n 3, 1) := by decide +kernel
theorem dJ7_fill_d0a16_2 : decode cJ7_fill_d0a16 2 = .ok (.aload_n 0, 1) := by decide +kernel
theorem dJ7_fill_d0a16_3 : decode cJ7_fill_d0a16 3 = .ok (.arraylength, 1) := by decide +kernel
theorem dJ7_fill_d0a16_4 : decode cJ7_fill_d0a16 4 = .ok (.istore 4, 2) := by decide +kernel
theorem dJ7_fill_d0a16_6 : decode cJ7_fill_d0a16 6 = .ok (.iload_n 3, 1) := by decide +kernel
theorem dJ7_fill_d0a16_7 : decode cJ7_fill_d0a16 7 = .ok (.iload 4, 2) := by decide +kernel
theorem dJ7_fill_d0a16_9 : decode cJ7_fill_d0a16 9 = .ok (.if_icmp .ge 13, 3) := by decide +kernel
theorem dJ7_fill_d0a16_12 : decode cJ7_fill_d0a16 12 = .ok (.aload_n 0, 1) := by decide +kernel
theorem dJ7_fill_d0a16_13 : decode cJ7_fill_d0a16 13 = .ok (.iload_n 3, 1) := by decide +kernel
theorem dJ7_fill_d0a16_14 : decode cJ7_fill_d0a16 14 = .ok (.lload_n 1, 1) := by decide +kernel
theorem dJ7_fill_d0a16_15 : decode cJ7_fill_d0a16 15 = .ok (.lastore, 1) := by decide +kernel
theorem dJ7_fill_d0a16_16 : decode cJ7_fill_d0a16 16 = .ok (.iinc 3 1, 3) := by decide +kernel
theorem dJ7_fill_d0a16_19 : decode cJ7_fill_d0a16 19 = .ok (.goto (-13), 3) := by decide +kernel
theorem dJ7_fill_d0a16_22 : decode cJ7_fill_d0a16 22 = .ok (.return_, 1) := by decide +kernel
def R_J7_fill_d0a16 (r0 : Nat) (n0 : Nat) (a1 : Int64) (σ : kS) (τ : kS) : Prop := Run SX jJ7_fill_d0a16 [(.ref r0), (.long a1)] σ none τ
def E_J7_fill_d0a16_6 (r0 : Nat) (n0 : Nat) (l1 : Int64) (l3 : Int32) (l4 : Int32) (σ : kS) (τ : kS) : Prop := Ex SX jJ7_fill_d0a16 6 [some (.ref r0), some (.long l1), none, some (.int l3), some (.int l4)] [] σ none τ
set_option maxRecDepth 20000 in
theorem t_J7_fill_d0a16 {r0 : Nat} {n0 : Nat} {a1 : Int64} {σ : kS} {τ : kS} (hr0 : k_is SX r0 2 n0 = true) (h : E_J7_fill_d0a16_6 r0 n0 a1 (0 : Int32) (nI n0) σ τ) : R_J7_fill_d0a16 r0 n0 a1 σ τ := by
  refine x_run [some (.ref r0), some (.long a1), none, none, none] (by decide +kernel) rfl (Nat.le_of_ble_eq_true rfl) ?_
  refine x_iconst (pc := 0) (0 : Int32) dJ7_fill_d0a16_0 (by decide +kernel) ?_
  refine x_istore_n (pc := 1) 3 dJ7_fill_d0a16_1 rfl (by decide) rfl ?_
  refine x_aload_n (pc := 2) 0 dJ7_fill_d0a16_2 rfl rfl ?_
  refine x_llen (pc := 3) (n := n0) dJ7_fill_d0a16_3 hr0 ?_
  refine x_istore (pc := 4) dJ7_fill_d0a16_4 (by decide) rfl ?_
  exact h
set_option maxRecDepth 20000 in
theorem t_J7_fill_d0a16_6 {r0 : Nat} {n0 : Nat} {l1 : Int64} {l3 : Int32} {l4 : Int32} {σ : kS} {τ : kS} (hr0 : k_is SX r0 2 n0 = true) (h : (l4 ≤ l3 → τ = σ) ∧ (¬ l4 ≤ l3 → vp_in l3 n0 ∧ (E_J7_fill_d0a16_6 r0 n0 l1 (l3 + (1 : Int32)) l4 (k_sl σ r0 l3.toNatClampNeg l1) τ))) : E_J7_fill_d0a16_6 r0 n0 l1 l3 l4 σ τ := by
  unfold E_J7_fill_d0a16_6
  refine x_iload_n (pc := 6) 3 dJ7_fill_d0a16_6 rfl rfl ?_
  refine x_iload (pc := 7) dJ7_fill_d0a16_7 rfl ?_
  refine x_icmp_ge (pc := 9) 22 dJ7_fill_d0a16_9 (by decide) (fun c1 => ?_) (fun c1 => ?_)
  · replace h := h.1 c1
    exact x_return2 (pc := 22) dJ7_fill_d0a16_22 rfl h
  · replace h := h.2 c1
    refine x_aload_n (pc := 12) 0 dJ7_fill_d0a16_12 rfl rfl ?_
    refine x_iload_n (pc := 13) 3 dJ7_fill_d0a16_13 rfl rfl ?_
    refine x_lload_n (pc := 14) 1 dJ7_fill_d0a16_14 rfl rfl ?_
    obtain ⟨g2, h⟩ := h
    refine x_lastore (pc := 15) (n := n0) dJ7_fill_d0a16_15 hr0 g2 ?_
    refine x_iinc (pc := 16) (1 : Int32) dJ7_fill_d0a16_16 (by decide) rfl rfl (by decide +kernel) ?_
    refine x_goto (pc := 19) 6 dJ7_fill_d0a16_19 (by decide) ?_
    exact h
theorem dX4_begin_0 : decode cX4_begin 0 = .ok (.aload_n 0, 1) := by decide +kernel
theorem dX4_begin_1 : decode cX4_begin 1 = .ok (.iload_n 1, 1) := by decide +kernel
theorem dX4_begin_2 : decode cX4_begin 2 = .ok (.putfield 11, 3) := by decide +kernel
theorem dX4_begin_5 : decode cX4_begin 5 = .ok (.aload_n 0, 1) := by decide +kernel
theorem dX4_begin_6 : decode cX4_begin 6 = .ok (.iload_n 2, 1) := by decide +kernel
theorem dX4_begin_7 : decode cX4_begin 7 = .ok (.putfield 19, 3) := by decide +kernel
theorem dX4_begin_10 : decode cX4_begin 10 = .ok (.aload_n 0, 1) := by decide +kernel
theorem dX4_begin_11 : decode cX4_begin 11 = .ok (.getfield 15, 3) := by decide +kernel
theorem dX4_begin_14 : decode cX4_begin 14 = .ok (.lconst 0, 1) := by decide +kernel
theorem dX4_begin_15 : decode cX4_begin 15 = .ok (.invokestatic 22, 3) := by decide +kernel
theorem dX4_begin_18 : decode cX4_begin 18 = .ok (.return_, 1) := by decide +kernel
def R_X4_begin (s : Nat) (a1 : Int32) (a2 : Int32) (σ : kS) (τ : kS) : Prop := Run SX jX4_begin [(.ref s), (.int a1), (.int a2)] σ none τ
set_option maxRecDepth 20000 in
theorem t_X4_begin {s : Nat} {a1 : Int32} {a2 : Int32} {σ : kS} {τ : kS} (hs : k_sht s = true) (h : ∃ s1 : kS, R_J7_fill_d0a16 (s + 1) 24 (0 : Int64) (k_si (k_si σ s 0 a1) s 1 a2) s1 ∧ (τ = s1)) : R_X4_begin s a1 a2 σ τ := by
  refine x_run [some (.ref s), some (.int a1), some (.int a2)] (by decide +kernel) rfl (Nat.le_of_ble_eq_true rfl) ?_
  refine x_aload_n (pc := 0) 0 dX4_begin_0 rfl rfl ?_
  refine x_iload_n (pc := 1) 1 dX4_begin_1 rfl rfl ?_
  refine x_putI (pc := 2) dX4_begin_2 pX4_11 (sh_is hs) (sh_i0 hs) ?_
  refine x_aload_n (pc := 5) 0 dX4_begin_5 rfl rfl ?_
  refine x_iload_n (pc := 6) 2 dX4_begin_6 rfl rfl ?_
  refine x_putI (pc := 7) dX4_begin_7 pX4_19 (sh_is hs) (sh_i1 hs) ?_
  refine x_aload_n (pc := 10) 0 dX4_begin_10 rfl rfl ?_
  refine x_getR (pc := 11) dX4_begin_11 fX4_15 (sh_is hs) (sh_r hs) ?_
  refine x_lconst (pc := 14) (0 : Int64) dX4_begin_14 (by decide +kernel) ?_
  obtain ⟨s1, hr, h⟩ := h
  refine x_callS (pc := 15) [(.ref (s + 1)), (.long (0 : Int64))] [] dX4_begin_15 ⟨⟨hJ7_fill_d0a16.1, hJ7_fill_d0a16.2.1, hJ7_fill_d0a16.2.2, by decide⟩, mX4_22, sJ7_fill_d0a16⟩ rfl rfl (Nat.le_of_ble_eq_true rfl) hr ?_
  exact x_return2 (pc := 18) dX4_begin_18 rfl h
theorem dX4_end_0 : decode cX4_end 0 = .ok (.aload_n 0, 1) := by decide +kernel
theorem dX4_end_1 : decode cX4_end 1 = .ok (.iconst (-1), 1) := by decide +kernel
theorem dX4_end_2 : decode cX4_end 2 = .ok (.putfield 11, 3) := by decide +kernel
theorem dX4_end_5 : decode cX4_end 5 = .ok (.aload_n 0, 1) := by decide +kernel
theorem dX4_end_6 : decode cX4_end 6 = .ok (.iconst 0, 1) := by decide +kernel
theorem dX4_end_7 : decode cX4_end 7 = .ok (.putfield 19, 3) := by decide +kernel
theorem dX4_end_10 : decode cX4_end 10 = .ok (.return_, 1) := by decide +kernel
def R_X4_end (s : Nat) (σ : kS) (τ : kS) : Prop := Run SX jX4_end [(.ref s)] σ none τ
set_option maxRecDepth 20000 in
theorem t_X4_end {s : Nat} {σ : kS} {τ : kS} (hs : k_sht s = true) (h : τ = (k_si (k_si σ s 0 (-1 : Int32)) s 1 (0 : Int32))) : R_X4_end s σ τ := by
  refine x_run [some (.ref s)] (by decide +kernel) rfl (Nat.le_of_ble_eq_true rfl) ?_
  refine x_aload_n (pc := 0) 0 dX4_end_0 rfl rfl ?_
  refine x_iconst (pc := 1) (-1 : Int32) dX4_end_1 (by decide +kernel) ?_
  refine x_putI (pc := 2) dX4_end_2 pX4_11 (sh_is hs) (sh_i0 hs) ?_
  refine x_aload_n (pc := 5) 0 dX4_end_5 rfl rfl ?_
  refine x_iconst (pc := 6) (0 : Int32) dX4_end_6 (by decide +kernel) ?_
  refine x_putI (pc := 7) dX4_end_7 pX4_19 (sh_is hs) (sh_i1 hs) ?_
  exact x_return2 (pc := 10) dX4_end_10 rfl h
theorem dX4_holds_0 : decode cX4_holds 0 = .ok (.iload_n 2, 1) := by decide +kernel
theorem dX4_holds_1 : decode cX4_holds 1 = .ok (.ifCond .lt 29, 3) := by decide +kernel
theorem dX4_holds_4 : decode cX4_holds 4 = .ok (.iload_n 2, 1) := by decide +kernel
theorem dX4_holds_5 : decode cX4_holds 5 = .ok (.aload_n 0, 1) := by decide +kernel
theorem dX4_holds_6 : decode cX4_holds 6 = .ok (.getfield 19, 3) := by decide +kernel
theorem dX4_holds_9 : decode cX4_holds 9 = .ok (.if_icmp .gt 21, 3) := by decide +kernel
theorem dX4_holds_12 : decode cX4_holds 12 = .ok (.iload_n 1, 1) := by decide +kernel
theorem dX4_holds_13 : decode cX4_holds 13 = .ok (.ifCond .lt 17, 3) := by decide +kernel
theorem dX4_holds_16 : decode cX4_holds 16 = .ok (.iload_n 1, 1) := by decide +kernel
theorem dX4_holds_17 : decode cX4_holds 17 = .ok (.aload_n 0, 1) := by decide +kernel
theorem dX4_holds_18 : decode cX4_holds 18 = .ok (.getfield 19, 3) := by decide +kernel
theorem dX4_holds_21 : decode cX4_holds 21 = .ok (.iload_n 2, 1) := by decide +kernel
theorem dX4_holds_22 : decode cX4_holds 22 = .ok (.isub, 1) := by decide +kernel
theorem dX4_holds_23 : decode cX4_holds 23 = .ok (.if_icmp .gt 7, 3) := by decide +kernel
theorem dX4_holds_26 : decode cX4_holds 26 = .ok (.iconst 1, 1) := by decide +kernel
theorem dX4_holds_27 : decode cX4_holds 27 = .ok (.goto 4, 3) := by decide +kernel
theorem dX4_holds_30 : decode cX4_holds 30 = .ok (.iconst 0, 1) := by decide +kernel
theorem dX4_holds_31 : decode cX4_holds 31 = .ok (.ireturn, 1) := by decide +kernel
def R_X4_holds (s : Nat) (a1 : Int32) (a2 : Int32) (σ : kS) (x : Int32) (τ : kS) : Prop := Run SX jX4_holds [(.ref s), (.int a1), (.int a2)] σ (some (.int x)) τ
set_option maxRecDepth 20000 in
theorem t_X4_holds {s : Nat} {a1 : Int32} {a2 : Int32} {σ : kS} {x : Int32} {τ : kS} (hs : k_sht s = true) (h : (a2 < 0 → x = (0 : Int32) ∧ τ = σ) ∧ (¬ a2 < 0 → ((σ.1 s 1) < a2 → x = (0 : Int32) ∧ τ = σ) ∧ (¬ (σ.1 s 1) < a2 → (a1 < 0 → x = (0 : Int32) ∧ τ = σ) ∧ (¬ a1 < 0 → (((σ.1 s 1) - a2) < a1 → x = (0 : Int32) ∧ τ = σ) ∧ (¬ ((σ.1 s 1) - a2) < a1 → x = (1 : Int32) ∧ τ = σ))))) : R_X4_holds s a1 a2 σ x τ := by
  refine x_run [some (.ref s), some (.int a1), some (.int a2)] (by decide +kernel) rfl (Nat.le_of_ble_eq_true rfl) ?_
  refine x_iload_n (pc := 0) 2 dX4_holds_0 rfl rfl ?_
  refine x_if_lt (pc := 1) 30 dX4_holds_1 (by decide) (fun c1 => ?_) (fun c1 => ?_)
  · replace h := h.1 c1
    refine x_iconst (pc := 30) (0 : Int32) dX4_holds_30 (by decide +kernel) ?_
    exact x_zreturn2 (pc := 31) dX4_holds_31 rfl rfl h.1 h.2
  · replace h := h.2 c1
    refine x_iload_n (pc := 4) 2 dX4_holds_4 rfl rfl ?_
    refine x_aload_n (pc := 5) 0 dX4_holds_5 rfl rfl ?_
    refine x_getI (pc := 6) dX4_holds_6 fX4_19 (sh_is hs) (sh_i1 hs) ?_
    refine x_icmp_gt (pc := 9) 30 dX4_holds_9 (by decide) (fun c2 => ?_) (fun c2 => ?_)
    · replace h := h.1 c2
      refine x_iconst (pc := 30) (0 : Int32) dX4_holds_30 (by decide +kernel) ?_
      exact x_zreturn2 (pc := 31) dX4_holds_31 rfl rfl h.1 h.2
    · replace h := h.2 c2
      refine x_iload_n (pc := 12) 1 dX4_holds_12 rfl rfl ?_
      refine x_if_lt (pc := 13) 30 dX4_holds_13 (by decide) (fun c3 => ?_) (fun c3 => ?_)
      · replace h := h.1 c3
        refine x_iconst (pc := 30) (0 : Int32) dX4_holds_30 (by decide +kernel) ?_
        exact x_zreturn2 (pc := 31) dX4_holds_31 rfl rfl h.1 h.2
      · replace h := h.2 c3
        refine x_iload_n (pc := 16) 1 dX4_holds_16 rfl rfl ?_
        refine x_aload_n (pc := 17) 0 dX4_holds_17 rfl rfl ?_
        refine x_getI (pc := 18) dX4_holds_18 fX4_19 (sh_is hs) (sh_i1 hs) ?_
        refine x_iload_n (pc := 21) 2 dX4_holds_21 rfl rfl ?_
        refine x_isub (pc := 22) dX4_holds_22 ?_
        refine x_icmp_gt (pc := 23) 30 dX4_holds_23 (by decide) (fun c4 => ?_) (fun c4 => ?_)
        · replace h := h.1 c4
          refine x_iconst (pc := 30) (0 : Int32) dX4_holds_30 (by decide +kernel) ?_
          exact x_zreturn2 (pc := 31) dX4_holds_31 rfl rfl h.1 h.2
        · replace h := h.2 c4
          refine x_iconst (pc := 26) (1 : Int32) dX4_holds_26 (by decide +kernel) ?_
          refine x_goto (pc := 27) 31 dX4_holds_27 (by decide) ?_
          exact x_zreturn2 (pc := 31) dX4_holds_31 rfl rfl h.1 h.2
theorem dX4_holdsPairs_0 : decode cX4_holdsPairs 0 = .ok (.iconst 0, 1) := by decide +kernel
theorem dX4_holdsPairs_1 : decode cX4_holdsPairs 1 = .ok (.istore 4, 2) := by decide +kernel
theorem dX4_holdsPairs_3 : decode cX4_holdsPairs 3 = .ok (.iload 4, 2) := by decide +kernel
theorem dX4_holdsPairs_5 : decode cX4_holdsPairs 5 = .ok (.iload_n 2, 1) := by decide +kernel
theorem dX4_holdsPairs_6 : decode cX4_holdsPairs 6 = .ok (.if_icmp .ge 70, 3) := by decide +kernel
theorem dX4_holdsPairs_9 : decode cX4_holdsPairs 9 = .ok (.aload_n 0, 1) := by decide +kernel
theorem dX4_holdsPairs_10 : decode cX4_holdsPairs 10 = .ok (.getfield 15, 3) := by decide +kernel
theorem dX4_holdsPairs_13 : decode cX4_holdsPairs 13 = .ok (.iload_n 1, 1) := by decide +kernel
theorem dX4_holdsPairs_14 : decode cX4_holdsPairs 14 = .ok (.iconst 2, 1) := by decide +kernel
theorem dX4_holdsPairs_15 : decode cX4_holdsPairs 15 = .ok (.iload 4, 2) := by decide +kernel
theorem dX4_holdsPairs_17 : decode cX4_holdsPairs 17 = .ok (.imul, 1) := by decide +kernel
theorem dX4_holdsPairs_18 : decode cX4_holdsPairs 18 = .ok (.iadd, 1) := by decide +kernel
theorem dX4_holdsPairs_19 : decode cX4_holdsPairs 19 = .ok (.laload, 1) := by decide +kernel
theorem dX4_holdsPairs_20 : decode cX4_holdsPairs 20 = .ok (.lstore 5, 2) := by decide +kernel
theorem dX4_holdsPairs_22 : decode cX4_holdsPairs 22 = .ok (.aload_n 0, 1) := by decide +kernel
theorem dX4_holdsPairs_23 : decode cX4_holdsPairs 23 = .ok (.getfield 15, 3) := by decide +kernel
theorem dX4_holdsPairs_26 : decode cX4_holdsPairs 26 = .ok (.iload_n 1, 1) := by decide +kernel
theorem dX4_holdsPairs_27 : decode cX4_holdsPairs 27 = .ok (.iconst 2, 1) := by decide +kernel
theorem dX4_holdsPairs_28 : decode cX4_holdsPairs 28 = .ok (.iload 4, 2) := by decide +kernel
theorem dX4_holdsPairs_30 : decode cX4_holdsPairs 30 = .ok (.imul, 1) := by decide +kernel
theorem dX4_holdsPairs_31 : decode cX4_holdsPairs 31 = .ok (.iadd, 1) := by decide +kernel
theorem dX4_holdsPairs_32 : decode cX4_holdsPairs 32 = .ok (.iconst 1, 1) := by decide +kernel
theorem dX4_holdsPairs_33 : decode cX4_holdsPairs 33 = .ok (.iadd, 1) := by decide +kernel
theorem dX4_holdsPairs_34 : decode cX4_holdsPairs 34 = .ok (.laload, 1) := by decide +kernel
theorem dX4_holdsPairs_35 : decode cX4_holdsPairs 35 = .ok (.lstore 7, 2) := by decide +kernel
theorem dX4_holdsPairs_37 : decode cX4_holdsPairs 37 = .ok (.lload 5, 2) := by decide +kernel
theorem dX4_holdsPairs_39 : decode cX4_holdsPairs 39 = .ok (.lconst 0, 1) := by decide +kernel
theorem dX4_holdsPairs_40 : decode cX4_holdsPairs 40 = .ok (.lcmp, 1) := by decide +kernel
theorem dX4_holdsPairs_41 : decode cX4_holdsPairs 41 = .ok (.ifCond .lt 27, 3) := by decide +kernel
theorem dX4_holdsPairs_44 : decode cX4_holdsPairs 44 = .ok (.lload 5, 2) := by decide +kernel
theorem dX4_holdsPairs_46 : decode cX4_holdsPairs 46 = .ok (.iload_n 3, 1) := by decide +kernel
theorem dX4_holdsPairs_47 : decode cX4_holdsPairs 47 = .ok (.i2l, 1) := by decide +kernel
theorem dX4_holdsPairs_48 : decode cX4_holdsPairs 48 = .ok (.lcmp, 1) := by decide +kernel
theorem dX4_holdsPairs_49 : decode cX4_holdsPairs 49 = .ok (.ifCond .ge 19, 3) := by decide +kernel
theorem dX4_holdsPairs_52 : decode cX4_holdsPairs 52 = .ok (.lload 7, 2) := by decide +kernel
theorem dX4_holdsPairs_54 : decode cX4_holdsPairs 54 = .ok (.lconst 0, 1) := by decide +kernel
theorem dX4_holdsPairs_55 : decode cX4_holdsPairs 55 = .ok (.lcmp, 1) := by decide +kernel
theorem dX4_holdsPairs_56 : decode cX4_holdsPairs 56 = .ok (.ifCond .lt 12, 3) := by decide +kernel
theorem dX4_holdsPairs_59 : decode cX4_holdsPairs 59 = .ok (.lload 7, 2) := by decide +kernel
theorem dX4_holdsPairs_61 : decode cX4_holdsPairs 61 = .ok (.ldc2_w 28, 3) := by decide +kernel
theorem dX4_holdsPairs_64 : decode cX4_holdsPairs 64 = .ok (.lcmp, 1) := by decide +kernel
theorem dX4_holdsPairs_65 : decode cX4_holdsPairs 65 = .ok (.ifCond .le 5, 3) := by decide +kernel
theorem dX4_holdsPairs_68 : decode cX4_holdsPairs 68 = .ok (.iconst 0, 1) := by decide +kernel
theorem dX4_holdsPairs_69 : decode cX4_holdsPairs 69 = .ok (.ireturn, 1) := by decide +kernel
theorem dX4_holdsPairs_70 : decode cX4_holdsPairs 70 = .ok (.iinc 4 1, 3) := by decide +kernel
theorem dX4_holdsPairs_73 : decode cX4_holdsPairs 73 = .ok (.goto (-70), 3) := by decide +kernel
theorem dX4_holdsPairs_76 : decode cX4_holdsPairs 76 = .ok (.iconst 1, 1) := by decide +kernel
theorem dX4_holdsPairs_77 : decode cX4_holdsPairs 77 = .ok (.ireturn, 1) := by decide +kernel
def R_X4_holdsPairs (s : Nat) (a1 : Int32) (a2 : Int32) (a3 : Int32) (σ : kS) (x : Int32) (τ : kS) : Prop := Run SX jX4_holdsPairs [(.ref s), (.int a1), (.int a2), (.int a3)] σ (some (.int x)) τ
def E_X4_holdsPairs_3 (s : Nat) (l1 : Int32) (l2 : Int32) (l3 : Int32) (l4 : Int32) (σ : kS) (x : Int32) (τ : kS) : Prop := Ex SX jX4_holdsPairs 3 [some (.ref s), some (.int l1), some (.int l2), some (.int l3), some (.int l4), none, none, none, none] [] σ (some (.int x)) τ
set_option maxRecDepth 20000 in
theorem t_X4_holdsPairs {s : Nat} {a1 : Int32} {a2 : Int32} {a3 : Int32} {σ : kS} {x : Int32} {τ : kS} (hs : k_sht s = true) (h : E_X4_holdsPairs_3 s a1 a2 a3 (0 : Int32) σ x τ) : R_X4_holdsPairs s a1 a2 a3 σ x τ := by
  refine x_run [some (.ref s), some (.int a1), some (.int a2), some (.int a3), none, none, none, none, none] (by decide +kernel) rfl (Nat.le_of_ble_eq_true rfl) ?_
  refine x_iconst (pc := 0) (0 : Int32) dX4_holdsPairs_0 (by decide +kernel) ?_
  refine x_istore (pc := 1) dX4_holdsPairs_1 (by decide) rfl ?_
  exact h
set_option maxRecDepth 20000 in
theorem t_X4_holdsPairs_3 {s : Nat} {l1 : Int32} {l2 : Int32} {l3 : Int32} {l4 : Int32} {σ : kS} {x : Int32} {τ : kS} (hs : k_sht s = true) (h : (l2 ≤ l4 → x = (1 : Int32) ∧ τ = σ) ∧ (¬ l2 ≤ l4 → vp_in (l1 + ((2 : Int32) * l4)) 24 ∧ (vp_in ((l1 + ((2 : Int32) * l4)) + (1 : Int32)) 24 ∧ (((lg_cmp (σ.2 (s + 1) (l1 + ((2 : Int32) * l4)).toNatClampNeg) (0 : Int64)) < 0 → x = (0 : Int32) ∧ τ = σ) ∧ (¬ (lg_cmp (σ.2 (s + 1) (l1 + ((2 : Int32) * l4)).toNatClampNeg) (0 : Int64)) < 0 → (0 ≤ (lg_cmp (σ.2 (s + 1) (l1 + ((2 : Int32) * l4)).toNatClampNeg) l3.toInt64) → x = (0 : Int32) ∧ τ = σ) ∧ (¬ 0 ≤ (lg_cmp (σ.2 (s + 1) (l1 + ((2 : Int32) * l4)).toNatClampNeg) l3.toInt64) → ((lg_cmp (σ.2 (s + 1) ((l1 + ((2 : Int32) * l4)) + (1 : Int32)).toNatClampNeg) (0 : Int64)) < 0 → x = (0 : Int32) ∧ τ = σ) ∧ (¬ (lg_cmp (σ.2 (s + 1) ((l1 + ((2 : Int32) * l4)) + (1 : Int32)).toNatClampNeg) (0 : Int64)) < 0 → ((lg_cmp (σ.2 (s + 1) ((l1 + ((2 : Int32) * l4)) + (1 : Int32)).toNatClampNeg) (12 : Int64)) ≤ 0 → E_X4_holdsPairs_3 s l1 l2 l3 (l4 + (1 : Int32)) σ x τ) ∧ (¬ (lg_cmp (σ.2 (s + 1) ((l1 + ((2 : Int32) * l4)) + (1 : Int32)).toNatClampNeg) (12 : Int64)) ≤ 0 → x = (0 : Int32) ∧ τ = σ)))))))) : E_X4_holdsPairs_3 s l1 l2 l3 l4 σ x τ := by
  unfold E_X4_holdsPairs_3
  refine x_iload (pc := 3) dX4_holdsPairs_3 rfl ?_
  refine x_iload_n (pc := 5) 2 dX4_holdsPairs_5 rfl rfl ?_
  refine x_icmp_ge (pc := 6) 76 dX4_holdsPairs_6 (by decide) (fun c1 => ?_) (fun c1 => ?_)
  · replace h := h.1 c1
    refine x_iconst (pc := 76) (1 : Int32) dX4_holdsPairs_76 (by decide +kernel) ?_
    exact x_zreturn2 (pc := 77) dX4_holdsPairs_77 rfl rfl h.1 h.2
  · replace h := h.2 c1
    refine x_aload_n (pc := 9) 0 dX4_holdsPairs_9 rfl rfl ?_
    refine x_getR (pc := 10) dX4_holdsPairs_10 fX4_15 (sh_is hs) (sh_r hs) ?_
    refine x_iload_n (pc := 13) 1 dX4_holdsPairs_13 rfl rfl ?_
    refine x_iconst (pc := 14) (2 : Int32) dX4_holdsPairs_14 (by decide +kernel) ?_
    refine x_iload (pc := 15) dX4_holdsPairs_15 rfl ?_
    refine x_imul (pc := 17) dX4_holdsPairs_17 ?_
    refine x_iadd (pc := 18) dX4_holdsPairs_18 ?_
    obtain ⟨g2, h⟩ := h
    refine x_laload (pc := 19) (n := 24) dX4_holdsPairs_19 (sh_a hs) g2 ?_
    refine x_lstore (pc := 20) dX4_holdsPairs_20 (by decide) rfl ?_
    refine x_aload_n (pc := 22) 0 dX4_holdsPairs_22 rfl rfl ?_
    refine x_getR (pc := 23) dX4_holdsPairs_23 fX4_15 (sh_is hs) (sh_r hs) ?_
    refine x_iload_n (pc := 26) 1 dX4_holdsPairs_26 rfl rfl ?_
    refine x_iconst (pc := 27) (2 : Int32) dX4_holdsPairs_27 (by decide +kernel) ?_
    refine x_iload (pc := 28) dX4_holdsPairs_28 rfl ?_
    refine x_imul (pc := 30) dX4_holdsPairs_30 ?_
    refine x_iadd (pc := 31) dX4_holdsPairs_31 ?_
    refine x_iconst (pc := 32) (1 : Int32) dX4_holdsPairs_32 (by decide +kernel) ?_
    refine x_iadd (pc := 33) dX4_holdsPairs_33 ?_
    obtain ⟨g3, h⟩ := h
    refine x_laload (pc := 34) (n := 24) dX4_holdsPairs_34 (sh_a hs) g3 ?_
    refine x_lstore (pc := 35) dX4_holdsPairs_35 (by decide) rfl ?_
    refine x_lload (pc := 37) dX4_holdsPairs_37 rfl ?_
    refine x_lconst (pc := 39) (0 : Int64) dX4_holdsPairs_39 (by decide +kernel) ?_
    refine x_lcmp (pc := 40) dX4_holdsPairs_40 ?_
    refine x_if_lt (pc := 41) 68 dX4_holdsPairs_41 (by decide) (fun c4 => ?_) (fun c4 => ?_)
    · replace h := h.1 c4
      refine x_iconst (pc := 68) (0 : Int32) dX4_holdsPairs_68 (by decide +kernel) ?_
      exact x_zreturn2 (pc := 69) dX4_holdsPairs_69 rfl rfl h.1 h.2
    · replace h := h.2 c4
      refine x_lload (pc := 44) dX4_holdsPairs_44 rfl ?_
      refine x_iload_n (pc := 46) 3 dX4_holdsPairs_46 rfl rfl ?_
      refine x_i2l (pc := 47) dX4_holdsPairs_47 ?_
      refine x_lcmp (pc := 48) dX4_holdsPairs_48 ?_
      refine x_if_ge (pc := 49) 68 dX4_holdsPairs_49 (by decide) (fun c5 => ?_) (fun c5 => ?_)
      · replace h := h.1 c5
        refine x_iconst (pc := 68) (0 : Int32) dX4_holdsPairs_68 (by decide +kernel) ?_
        exact x_zreturn2 (pc := 69) dX4_holdsPairs_69 rfl rfl h.1 h.2
      · replace h := h.2 c5
        refine x_lload (pc := 52) dX4_holdsPairs_52 rfl ?_
        refine x_lconst (pc := 54) (0 : Int64) dX4_holdsPairs_54 (by decide +kernel) ?_
        refine x_lcmp (pc := 55) dX4_holdsPairs_55 ?_
        refine x_if_lt (pc := 56) 68 dX4_holdsPairs_56 (by decide) (fun c6 => ?_) (fun c6 => ?_)
        · replace h := h.1 c6
          refine x_iconst (pc := 68) (0 : Int32) dX4_holdsPairs_68 (by decide +kernel) ?_
          exact x_zreturn2 (pc := 69) dX4_holdsPairs_69 rfl rfl h.1 h.2
        · replace h := h.2 c6
          refine x_lload (pc := 59) dX4_holdsPairs_59 rfl ?_
          refine x_ldc2 (pc := 61) dX4_holdsPairs_61 clX4_28 ?_
          refine x_lcmp (pc := 64) dX4_holdsPairs_64 ?_
          refine x_if_le (pc := 65) 70 dX4_holdsPairs_65 (by decide) (fun c7 => ?_) (fun c7 => ?_)
          · replace h := h.1 c7
            refine x_iinc (pc := 70) (1 : Int32) dX4_holdsPairs_70 (by decide) rfl rfl (by decide +kernel) ?_
            refine x_goto (pc := 73) 3 dX4_holdsPairs_73 (by decide) ?_
            exact x_mask [true, true, true, true, true, false, false, false, false] h
          · replace h := h.2 c7
            refine x_iconst (pc := 68) (0 : Int32) dX4_holdsPairs_68 (by decide +kernel) ?_
            exact x_zreturn2 (pc := 69) dX4_holdsPairs_69 rfl rfl h.1 h.2
theorem dX4_put_0 : decode cX4_put 0 = .ok (.aload_n 0, 1) := by decide +kernel
theorem dX4_put_1 : decode cX4_put 1 = .ok (.getfield 11, 3) := by decide +kernel
theorem dX4_put_4 : decode cX4_put 4 = .ok (.tableswitch 66 0 2 #[28, 41, 54], 28) := by decide +kernel
theorem dX4_put_32 : decode cX4_put 32 = .ok (.aload_n 0, 1) := by decide +kernel
theorem dX4_put_33 : decode cX4_put 33 = .ok (.getfield 15, 3) := by decide +kernel
theorem dX4_put_36 : decode cX4_put 36 = .ok (.iload_n 1, 1) := by decide +kernel
theorem dX4_put_37 : decode cX4_put 37 = .ok (.lload_n 2, 1) := by decide +kernel
theorem dX4_put_38 : decode cX4_put 38 = .ok (.l2i, 1) := by decide +kernel
theorem dX4_put_39 : decode cX4_put 39 = .ok (.i2b, 1) := by decide +kernel
theorem dX4_put_40 : decode cX4_put 40 = .ok (.i2l, 1) := by decide +kernel
theorem dX4_put_41 : decode cX4_put 41 = .ok (.lastore, 1) := by decide +kernel
theorem dX4_put_42 : decode cX4_put 42 = .ok (.goto 35, 3) := by decide +kernel
theorem dX4_put_45 : decode cX4_put 45 = .ok (.aload_n 0, 1) := by decide +kernel
theorem dX4_put_46 : decode cX4_put 46 = .ok (.getfield 15, 3) := by decide +kernel
theorem dX4_put_49 : decode cX4_put 49 = .ok (.iload_n 1, 1) := by decide +kernel
theorem dX4_put_50 : decode cX4_put 50 = .ok (.lload_n 2, 1) := by decide +kernel
theorem dX4_put_51 : decode cX4_put 51 = .ok (.l2i, 1) := by decide +kernel
theorem dX4_put_52 : decode cX4_put 52 = .ok (.i2s, 1) := by decide +kernel
theorem dX4_put_53 : decode cX4_put 53 = .ok (.i2l, 1) := by decide +kernel
theorem dX4_put_54 : decode cX4_put 54 = .ok (.lastore, 1) := by decide +kernel
theorem dX4_put_55 : decode cX4_put 55 = .ok (.goto 22, 3) := by decide +kernel
theorem dX4_put_58 : decode cX4_put 58 = .ok (.aload_n 0, 1) := by decide +kernel
theorem dX4_put_59 : decode cX4_put 59 = .ok (.getfield 15, 3) := by decide +kernel
theorem dX4_put_62 : decode cX4_put 62 = .ok (.iload_n 1, 1) := by decide +kernel
theorem dX4_put_63 : decode cX4_put 63 = .ok (.lload_n 2, 1) := by decide +kernel
theorem dX4_put_64 : decode cX4_put 64 = .ok (.l2i, 1) := by decide +kernel
theorem dX4_put_65 : decode cX4_put 65 = .ok (.i2l, 1) := by decide +kernel
theorem dX4_put_66 : decode cX4_put 66 = .ok (.lastore, 1) := by decide +kernel
theorem dX4_put_67 : decode cX4_put 67 = .ok (.goto 10, 3) := by decide +kernel
theorem dX4_put_70 : decode cX4_put 70 = .ok (.aload_n 0, 1) := by decide +kernel
theorem dX4_put_71 : decode cX4_put 71 = .ok (.getfield 15, 3) := by decide +kernel
theorem dX4_put_74 : decode cX4_put 74 = .ok (.iload_n 1, 1) := by decide +kernel
theorem dX4_put_75 : decode cX4_put 75 = .ok (.lload_n 2, 1) := by decide +kernel
theorem dX4_put_76 : decode cX4_put 76 = .ok (.lastore, 1) := by decide +kernel
theorem dX4_put_77 : decode cX4_put 77 = .ok (.return_, 1) := by decide +kernel
def R_X4_put (s : Nat) (a1 : Int32) (a2 : Int64) (σ : kS) (τ : kS) : Prop := Run SX jX4_put [(.ref s), (.int a1), (.long a2)] σ none τ
set_option maxRecDepth 20000 in
theorem t_X4_put {s : Nat} {a1 : Int32} {a2 : Int64} {σ : kS} {τ : kS} (hs : k_sht s = true) (h : ((σ.1 s 0).toInt = 0 → vp_in a1 24 ∧ (τ = (k_sl σ (s + 1) a1.toNatClampNeg a2.toInt32.toInt8.toInt32.toInt64))) ∧ ((σ.1 s 0).toInt = 1 → vp_in a1 24 ∧ (τ = (k_sl σ (s + 1) a1.toNatClampNeg a2.toInt32.toInt16.toInt32.toInt64))) ∧ ((σ.1 s 0).toInt = 2 → vp_in a1 24 ∧ (τ = (k_sl σ (s + 1) a1.toNatClampNeg a2.toInt32.toInt64))) ∧ (((σ.1 s 0).toInt < 0 ∨ 2 < (σ.1 s 0).toInt) → vp_in a1 24 ∧ (τ = (k_sl σ (s + 1) a1.toNatClampNeg a2)))) : R_X4_put s a1 a2 σ τ := by
  refine x_run [some (.ref s), some (.int a1), some (.long a2), none] (by decide +kernel) rfl (Nat.le_of_ble_eq_true rfl) ?_
  refine x_aload_n (pc := 0) 0 dX4_put_0 rfl rfl ?_
  refine x_getI (pc := 1) dX4_put_1 fX4_11 (sh_is hs) (sh_i0 hs) ?_
  refine x_table (pc := 4) 70 dX4_put_4 (by decide +kernel) (by decide +kernel) (by decide) (k_tb_cons (fun c1 => ?_) (k_tb_cons (fun c1 => ?_) (k_tb_cons (fun c1 => ?_) k_tb_nil))) (fun c1 => ?_)
  · replace h := h.1 c1
    refine x_aload_n (pc := 32) 0 dX4_put_32 rfl rfl ?_
    refine x_getR (pc := 33) dX4_put_33 fX4_15 (sh_is hs) (sh_r hs) ?_
    refine x_iload_n (pc := 36) 1 dX4_put_36 rfl rfl ?_
    refine x_lload_n (pc := 37) 2 dX4_put_37 rfl rfl ?_
    refine x_l2i (pc := 38) dX4_put_38 ?_
    refine x_i2b (pc := 39) dX4_put_39 ?_
    refine x_i2l (pc := 40) dX4_put_40 ?_
    obtain ⟨g2, h⟩ := h
    refine x_lastore (pc := 41) (n := 24) dX4_put_41 (sh_a hs) g2 ?_
    refine x_goto (pc := 42) 77 dX4_put_42 (by decide) ?_
    exact x_return2 (pc := 77) dX4_put_77 rfl h
  · replace h := h.2.1 c1
    refine x_aload_n (pc := 45) 0 dX4_put_45 rfl rfl ?_
    refine x_getR (pc := 46) dX4_put_46 fX4_15 (sh_is hs) (sh_r hs) ?_
    refine x_iload_n (pc := 49) 1 dX4_put_49 rfl rfl ?_
    refine x_lload_n (pc := 50) 2 dX4_put_50 rfl rfl ?_
    refine x_l2i (pc := 51) dX4_put_51 ?_
    refine x_i2s (pc := 52) dX4_put_52 ?_
    refine x_i2l (pc := 53) dX4_put_53 ?_
    obtain ⟨g3, h⟩ := h
    refine x_lastore (pc := 54) (n := 24) dX4_put_54 (sh_a hs) g3 ?_
    refine x_goto (pc := 55) 77 dX4_put_55 (by decide) ?_
    exact x_return2 (pc := 77) dX4_put_77 rfl h
  · replace h := h.2.2.1 c1
    refine x_aload_n (pc := 58) 0 dX4_put_58 rfl rfl ?_
    refine x_getR (pc := 59) dX4_put_59 fX4_15 (sh_is hs) (sh_r hs) ?_
    refine x_iload_n (pc := 62) 1 dX4_put_62 rfl rfl ?_
    refine x_lload_n (pc := 63) 2 dX4_put_63 rfl rfl ?_
    refine x_l2i (pc := 64) dX4_put_64 ?_
    refine x_i2l (pc := 65) dX4_put_65 ?_
    obtain ⟨g4, h⟩ := h
    refine x_lastore (pc := 66) (n := 24) dX4_put_66 (sh_a hs) g4 ?_
    refine x_goto (pc := 67) 77 dX4_put_67 (by decide) ?_
    exact x_return2 (pc := 77) dX4_put_77 rfl h
  · replace h := h.2.2.2 c1
    refine x_aload_n (pc := 70) 0 dX4_put_70 rfl rfl ?_
    refine x_getR (pc := 71) dX4_put_71 fX4_15 (sh_is hs) (sh_r hs) ?_
    refine x_iload_n (pc := 74) 1 dX4_put_74 rfl rfl ?_
    refine x_lload_n (pc := 75) 2 dX4_put_75 rfl rfl ?_
    obtain ⟨g5, h⟩ := h
    refine x_lastore (pc := 76) (n := 24) dX4_put_76 (sh_a hs) g5 ?_
    exact x_return2 (pc := 77) dX4_put_77 rfl h
theorem dX5_weigh_0 : decode cX5_weigh 0 = .ok (.iconst 0, 1) := by decide +kernel
theorem dX5_weigh_1 : decode cX5_weigh 1 = .ok (.istore_n 3, 1) := by decide +kernel
theorem dX5_weigh_2 : decode cX5_weigh 2 = .ok (.iload_n 3, 1) := by decide +kernel
theorem dX5_weigh_3 : decode cX5_weigh 3 = .ok (.aload_n 1, 1) := by decide +kernel
theorem dX5_weigh_4 : decode cX5_weigh 4 = .ok (.getfield 24, 3) := by decide +kernel
theorem dX5_weigh_7 : decode cX5_weigh 7 = .ok (.if_icmp .ge 70, 3) := by decide +kernel
theorem dX5_weigh_10 : decode cX5_weigh 10 = .ok (.iconst 0, 1) := by decide +kernel
theorem dX5_weigh_11 : decode cX5_weigh 11 = .ok (.istore 4, 2) := by decide +kernel
theorem dX5_weigh_13 : decode cX5_weigh 13 = .ok (.iload 4, 2) := by decide +kernel
theorem dX5_weigh_15 : decode cX5_weigh 15 = .ok (.iconst 1, 1) := by decide +kernel
theorem dX5_weigh_16 : decode cX5_weigh 16 = .ok (.aload_n 1, 1) := by decide +kernel
theorem dX5_weigh_17 : decode cX5_weigh 17 = .ok (.getfield 43, 3) := by decide +kernel
theorem dX5_weigh_20 : decode cX5_weigh 20 = .ok (.ishl, 1) := by decide +kernel
theorem dX5_weigh_21 : decode cX5_weigh 21 = .ok (.if_icmp .ge 50, 3) := by decide +kernel
theorem dX5_weigh_24 : decode cX5_weigh 24 = .ok (.aload_n 2, 1) := by decide +kernel
theorem dX5_weigh_25 : decode cX5_weigh 25 = .ok (.aload_n 1, 1) := by decide +kernel
theorem dX5_weigh_26 : decode cX5_weigh 26 = .ok (.iload_n 3, 1) := by decide +kernel
theorem dX5_weigh_27 : decode cX5_weigh 27 = .ok (.iload 4, 2) := by decide +kernel
theorem dX5_weigh_29 : decode cX5_weigh 29 = .ok (.invokevirtual 67, 3) := by decide +kernel
theorem dX5_weigh_32 : decode cX5_weigh 32 = .ok (.ifCond .eq 8, 3) := by decide +kernel
theorem dX5_weigh_35 : decode cX5_weigh 35 = .ok (.bipush 16, 2) := by decide +kernel
theorem dX5_weigh_37 : decode cX5_weigh 37 = .ok (.goto 4, 3) := by decide +kernel
theorem dX5_weigh_40 : decode cX5_weigh 40 = .ok (.iconst 0, 1) := by decide +kernel
theorem dX5_weigh_41 : decode cX5_weigh 41 = .ok (.istore 5, 2) := by decide +kernel
theorem dX5_weigh_43 : decode cX5_weigh 43 = .ok (.aload_n 0, 1) := by decide +kernel
theorem dX5_weigh_44 : decode cX5_weigh 44 = .ok (.getfield 9, 3) := by decide +kernel
theorem dX5_weigh_47 : decode cX5_weigh 47 = .ok (.iload_n 3, 1) := by decide +kernel
theorem dX5_weigh_48 : decode cX5_weigh 48 = .ok (.bipush 32, 2) := by decide +kernel
theorem dX5_weigh_50 : decode cX5_weigh 50 = .ok (.imul, 1) := by decide +kernel
theorem dX5_weigh_51 : decode cX5_weigh 51 = .ok (.iload 4, 2) := by decide +kernel
theorem dX5_weigh_53 : decode cX5_weigh 53 = .ok (.iadd, 1) := by decide +kernel
theorem dX5_weigh_54 : decode cX5_weigh 54 = .ok (.iload 5, 2) := by decide +kernel
theorem dX5_weigh_56 : decode cX5_weigh 56 = .ok (.aload_n 2, 1) := by decide +kernel
theorem dX5_weigh_57 : decode cX5_weigh 57 = .ok (.aload_n 1, 1) := by decide +kernel
theorem dX5_weigh_58 : decode cX5_weigh 58 = .ok (.iload 4, 2) := by decide +kernel
theorem dX5_weigh_60 : decode cX5_weigh 60 = .ok (.invokevirtual 73, 3) := by decide +kernel
theorem dX5_weigh_63 : decode cX5_weigh 63 = .ok (.isub, 1) := by decide +kernel
theorem dX5_weigh_64 : decode cX5_weigh 64 = .ok (.iastore, 1) := by decide +kernel
theorem dX5_weigh_65 : decode cX5_weigh 65 = .ok (.iinc 4 1, 3) := by decide +kernel
theorem dX5_weigh_68 : decode cX5_weigh 68 = .ok (.goto (-55), 3) := by decide +kernel
theorem dX5_weigh_71 : decode cX5_weigh 71 = .ok (.iinc 3 1, 3) := by decide +kernel
theorem dX5_weigh_74 : decode cX5_weigh 74 = .ok (.goto (-72), 3) := by decide +kernel
theorem dX5_weigh_77 : decode cX5_weigh 77 = .ok (.return_, 1) := by decide +kernel
def R_X5_weigh  (σ : kS) (τ : kS) : Prop := Run SX jX5_weigh [(.ref 29), (.ref 3), (.ref 27)] σ none τ
def E_X5_weigh_2 (l3 : Int32) (σ : kS) (τ : kS) : Prop := Ex SX jX5_weigh 2 [some (.ref 29), some (.ref 3), some (.ref 27), some (.int l3), none, none] [] σ none τ
def E_X5_weigh_13 (l3 : Int32) (l4 : Int32) (σ : kS) (τ : kS) : Prop := Ex SX jX5_weigh 13 [some (.ref 29), some (.ref 3), some (.ref 27), some (.int l3), some (.int l4), none] [] σ none τ
def E_X5_weigh_41 (l3 : Int32) (l4 : Int32) (y0 : Int32) (σ : kS) (τ : kS) : Prop := Ex SX jX5_weigh 41 [some (.ref 29), some (.ref 3), some (.ref 27), some (.int l3), some (.int l4), none] [(.int y0)] σ none τ
set_option maxRecDepth 20000 in
theorem t_X5_weigh  {σ : kS} {τ : kS}  (h : E_X5_weigh_2 (0 : Int32) σ τ) : R_X5_weigh  σ τ := by
  refine x_run [some (.ref 29), some (.ref 3), some (.ref 27), none, none, none] (by decide +kernel) rfl (Nat.le_of_ble_eq_true rfl) ?_
  refine x_iconst (pc := 0) (0 : Int32) dX5_weigh_0 (by decide +kernel) ?_
  refine x_istore_n (pc := 1) 3 dX5_weigh_1 rfl (by decide) rfl ?_
  exact h
set_option maxRecDepth 20000 in
theorem t_X5_weigh_2 {l3 : Int32} {σ : kS} {τ : kS}  (h : ((σ.1 3 1) ≤ l3 → τ = σ) ∧ (¬ (σ.1 3 1) ≤ l3 → E_X5_weigh_13 l3 (0 : Int32) σ τ)) : E_X5_weigh_2 l3 σ τ := by
  unfold E_X5_weigh_2
  refine x_iload_n (pc := 2) 3 dX5_weigh_2 rfl rfl ?_
  refine x_aload_n (pc := 3) 1 dX5_weigh_3 rfl rfl ?_
  refine x_getI (pc := 4) dX5_weigh_4 fX5_24 rfl rfl ?_
  refine x_icmp_ge (pc := 7) 77 dX5_weigh_7 (by decide) (fun c1 => ?_) (fun c1 => ?_)
  · replace h := h.1 c1
    exact x_return2 (pc := 77) dX5_weigh_77 rfl h
  · replace h := h.2 c1
    refine x_iconst (pc := 10) (0 : Int32) dX5_weigh_10 (by decide +kernel) ?_
    refine x_istore (pc := 11) dX5_weigh_11 (by decide) rfl ?_
    exact h
set_option maxRecDepth 20000 in
theorem t_X5_weigh_13 {l3 : Int32} {l4 : Int32} {σ : kS} {τ : kS}  (h : (((1 : Int32) <<< ((σ.1 3 2) &&& 31)) ≤ l4 → E_X5_weigh_2 (l3 + (1 : Int32)) σ τ) ∧ (¬ ((1 : Int32) <<< ((σ.1 3 2) &&& 31)) ≤ l4 → ∃ (x3 : Int32) (s2 : kS), R_X1_sing 3 l3 l4 σ x3 s2 ∧ ((x3 = 0 → E_X5_weigh_41 l3 l4 (0 : Int32) s2 τ) ∧ (¬ x3 = 0 → E_X5_weigh_41 l3 l4 (16 : Int32) s2 τ)))) : E_X5_weigh_13 l3 l4 σ τ := by
  unfold E_X5_weigh_13
  refine x_iload (pc := 13) dX5_weigh_13 rfl ?_
  refine x_iconst (pc := 15) (1 : Int32) dX5_weigh_15 (by decide +kernel) ?_
  refine x_aload_n (pc := 16) 1 dX5_weigh_16 rfl rfl ?_
  refine x_getI (pc := 17) dX5_weigh_17 fX5_43 rfl rfl ?_
  refine x_ishl (pc := 20) dX5_weigh_20 ?_
  refine x_icmp_ge (pc := 21) 71 dX5_weigh_21 (by decide) (fun c1 => ?_) (fun c1 => ?_)
  · replace h := h.1 c1
    refine x_iinc (pc := 71) (1 : Int32) dX5_weigh_71 (by decide) rfl rfl (by decide +kernel) ?_
    refine x_goto (pc := 74) 2 dX5_weigh_74 (by decide) ?_
    exact x_mask [true, true, true, true, false, false] h
  · replace h := h.2 c1
    refine x_aload_n (pc := 24) 2 dX5_weigh_24 rfl rfl ?_
    refine x_aload_n (pc := 25) 1 dX5_weigh_25 rfl rfl ?_
    refine x_iload_n (pc := 26) 3 dX5_weigh_26 rfl rfl ?_
    refine x_iload (pc := 27) dX5_weigh_27 rfl ?_
    obtain ⟨x3, s2, hr, h⟩ := h
    refine x_callV (pc := 29) [(.ref 3), (.int l3), (.int l4)] [] dX5_weigh_29 ⟨⟨hX1_sing.1, hX1_sing.2.1, hX1_sing.2.2, by decide⟩, mX5_67, vX1_sing.1, vX1_sing.2⟩ (ci := 1) rfl rfl rfl rfl (Nat.le_of_ble_eq_true rfl) hr ?_
    refine x_if_eq (pc := 32) 40 dX5_weigh_32 (by decide) (fun c4 => ?_) (fun c4 => ?_)
    · replace h := h.1 c4
      refine x_iconst (pc := 40) (0 : Int32) dX5_weigh_40 (by decide +kernel) ?_
      exact h
    · replace h := h.2 c4
      refine x_bipush (pc := 35) (16 : Int32) dX5_weigh_35 (by decide +kernel) ?_
      refine x_goto (pc := 37) 41 dX5_weigh_37 (by decide) ?_
      exact h
set_option maxRecDepth 20000 in
theorem t_X5_weigh_41 {l3 : Int32} {l4 : Int32} {y0 : Int32} {σ : kS} {τ : kS}  (h : ∃ (x2 : Int32) (s1 : kS), R_X1_effortOf 3 l4 σ x2 s1 ∧ (vp_in ((l3 * (32 : Int32)) + l4) 160 ∧ (E_X5_weigh_13 l3 (l4 + (1 : Int32)) (k_si s1 30 ((l3 * (32 : Int32)) + l4).toNatClampNeg (y0 - x2)) τ))) : E_X5_weigh_41 l3 l4 y0 σ τ := by
  unfold E_X5_weigh_41
  refine x_istore (pc := 41) dX5_weigh_41 (by decide) rfl ?_
  refine x_aload_n (pc := 43) 0 dX5_weigh_43 rfl rfl ?_
  refine x_getR (pc := 44) dX5_weigh_44 fX5_9 rfl rfl ?_
  refine x_iload_n (pc := 47) 3 dX5_weigh_47 rfl rfl ?_
  refine x_bipush (pc := 48) (32 : Int32) dX5_weigh_48 (by decide +kernel) ?_
  refine x_imul (pc := 50) dX5_weigh_50 ?_
  refine x_iload (pc := 51) dX5_weigh_51 rfl ?_
  refine x_iadd (pc := 53) dX5_weigh_53 ?_
  refine x_iload (pc := 54) dX5_weigh_54 rfl ?_
  refine x_aload_n (pc := 56) 2 dX5_weigh_56 rfl rfl ?_
  refine x_aload_n (pc := 57) 1 dX5_weigh_57 rfl rfl ?_
  refine x_iload (pc := 58) dX5_weigh_58 rfl ?_
  obtain ⟨x2, s1, hr, h⟩ := h
  refine x_callV (pc := 60) [(.ref 3), (.int l4)] [(.int y0), (.int ((l3 * (32 : Int32)) + l4)), (.ref 30)] dX5_weigh_60 ⟨⟨hX1_effortOf.1, hX1_effortOf.2.1, hX1_effortOf.2.2, by decide⟩, mX5_73, vX1_effortOf.1, vX1_effortOf.2⟩ (ci := 1) rfl rfl rfl rfl (Nat.le_of_ble_eq_true rfl) hr ?_
  refine x_isub (pc := 63) dX5_weigh_63 ?_
  obtain ⟨g3, h⟩ := h
  refine x_iastore (pc := 64) (n := 160) dX5_weigh_64 rfl g3 ?_
  refine x_iinc (pc := 65) (1 : Int32) dX5_weigh_65 (by decide) rfl rfl (by decide +kernel) ?_
  refine x_goto (pc := 68) 13 dX5_weigh_68 (by decide) ?_
  exact x_mask [true, true, true, true, true, false] h
theorem dX8_power_0 : decode cX8_power 0 = .ok (.iconst 1, 1) := by decide +kernel
theorem dX8_power_1 : decode cX8_power 1 = .ok (.istore_n 2, 1) := by decide +kernel
theorem dX8_power_2 : decode cX8_power 2 = .ok (.iconst 0, 1) := by decide +kernel
theorem dX8_power_3 : decode cX8_power 3 = .ok (.istore_n 3, 1) := by decide +kernel
theorem dX8_power_4 : decode cX8_power 4 = .ok (.iload_n 3, 1) := by decide +kernel
theorem dX8_power_5 : decode cX8_power 5 = .ok (.iload_n 1, 1) := by decide +kernel
theorem dX8_power_6 : decode cX8_power 6 = .ok (.if_icmp .ge 13, 3) := by decide +kernel
theorem dX8_power_9 : decode cX8_power 9 = .ok (.iload_n 2, 1) := by decide +kernel
theorem dX8_power_10 : decode cX8_power 10 = .ok (.iload_n 0, 1) := by decide +kernel
theorem dX8_power_11 : decode cX8_power 11 = .ok (.imul, 1) := by decide +kernel
theorem dX8_power_12 : decode cX8_power 12 = .ok (.istore_n 2, 1) := by decide +kernel
theorem dX8_power_13 : decode cX8_power 13 = .ok (.iinc 3 1, 3) := by decide +kernel
theorem dX8_power_16 : decode cX8_power 16 = .ok (.goto (-12), 3) := by decide +kernel
theorem dX8_power_19 : decode cX8_power 19 = .ok (.iload_n 2, 1) := by decide +kernel
theorem dX8_power_20 : decode cX8_power 20 = .ok (.ireturn, 1) := by decide +kernel
def R_X8_power (a0 : Int32) (a1 : Int32) (σ : kS) (x : Int32) (τ : kS) : Prop := Run SX jX8_power [(.int a0), (.int a1)] σ (some (.int x)) τ
def E_X8_power_4 (l0 : Int32) (l1 : Int32) (l2 : Int32) (l3 : Int32) (σ : kS) (x : Int32) (τ : kS) : Prop := Ex SX jX8_power 4 [some (.int l0), some (.int l1), some (.int l2), some (.int l3)] [] σ (some (.int x)) τ
set_option maxRecDepth 20000 in
theorem t_X8_power {a0 : Int32} {a1 : Int32} {σ : kS} {x : Int32} {τ : kS}  (h : E_X8_power_4 a0 a1 (1 : Int32) (0 : Int32) σ x τ) : R_X8_power a0 a1 σ x τ := by
  refine x_run [some (.int a0), some (.int a1), none, none] (by decide +kernel) rfl (Nat.le_of_ble_eq_true rfl) ?_
  refine x_iconst (pc := 0) (1 : Int32) dX8_power_0 (by decide +kernel) ?_
  refine x_istore_n (pc := 1) 2 dX8_power_1 rfl (by decide) rfl ?_
  refine x_iconst (pc := 2) (0 : Int32) dX8_power_2 (by decide +kernel) ?_
  refine x_istore_n (pc := 3) 3 dX8_power_3 rfl (by decide) rfl ?_
  exact h
set_option maxRecDepth 20000 in
theorem t_X8_power_4 {l0 : Int32} {l1 : Int32} {l2 : Int32} {l3 : Int32} {σ : kS} {x : Int32} {τ : kS}  (h : (l1 ≤ l3 → x = l2 ∧ τ = σ) ∧ (¬ l1 ≤ l3 → E_X8_power_4 l0 l1 (l2 * l0) (l3 + (1 : Int32)) σ x τ)) : E_X8_power_4 l0 l1 l2 l3 σ x τ := by
  unfold E_X8_power_4
  refine x_iload_n (pc := 4) 3 dX8_power_4 rfl rfl ?_
  refine x_iload_n (pc := 5) 1 dX8_power_5 rfl rfl ?_
  refine x_icmp_ge (pc := 6) 19 dX8_power_6 (by decide) (fun c1 => ?_) (fun c1 => ?_)
  · replace h := h.1 c1
    refine x_iload_n (pc := 19) 2 dX8_power_19 rfl rfl ?_
    exact x_ireturn2 (pc := 20) dX8_power_20 rfl h.1 h.2
  · replace h := h.2 c1
    refine x_iload_n (pc := 9) 2 dX8_power_9 rfl rfl ?_
    refine x_iload_n (pc := 10) 0 dX8_power_10 rfl rfl ?_
    refine x_imul (pc := 11) dX8_power_11 ?_
    refine x_istore_n (pc := 12) 2 dX8_power_12 rfl (by decide) rfl ?_
    refine x_iinc (pc := 13) (1 : Int32) dX8_power_13 (by decide) rfl rfl (by decide +kernel) ?_
    refine x_goto (pc := 16) 4 dX8_power_16 (by decide) ?_
    exact h
theorem dX5_worthOfAll_0 : decode cX5_worthOfAll 0 = .ok (.iconst 0, 1) := by decide +kernel
theorem dX5_worthOfAll_1 : decode cX5_worthOfAll 1 = .ok (.istore_n 1, 1) := by decide +kernel
theorem dX5_worthOfAll_2 : decode cX5_worthOfAll 2 = .ok (.iconst 0, 1) := by decide +kernel
theorem dX5_worthOfAll_3 : decode cX5_worthOfAll 3 = .ok (.istore_n 2, 1) := by decide +kernel
theorem dX5_worthOfAll_4 : decode cX5_worthOfAll 4 = .ok (.iload_n 2, 1) := by decide +kernel
theorem dX5_worthOfAll_5 : decode cX5_worthOfAll 5 = .ok (.aload_n 0, 1) := by decide +kernel
theorem dX5_worthOfAll_6 : decode cX5_worthOfAll 6 = .ok (.getfield 30, 3) := by decide +kernel
theorem dX5_worthOfAll_9 : decode cX5_worthOfAll 9 = .ok (.if_icmp .ge 28, 3) := by decide +kernel
theorem dX5_worthOfAll_12 : decode cX5_worthOfAll 12 = .ok (.iload_n 1, 1) := by decide +kernel
theorem dX5_worthOfAll_13 : decode cX5_worthOfAll 13 = .ok (.aload_n 0, 1) := by decide +kernel
theorem dX5_worthOfAll_14 : decode cX5_worthOfAll 14 = .ok (.getfield 9, 3) := by decide +kernel
theorem dX5_worthOfAll_17 : decode cX5_worthOfAll 17 = .ok (.iload_n 2, 1) := by decide +kernel
theorem dX5_worthOfAll_18 : decode cX5_worthOfAll 18 = .ok (.bipush 32, 2) := by decide +kernel
theorem dX5_worthOfAll_20 : decode cX5_worthOfAll 20 = .ok (.imul, 1) := by decide +kernel
theorem dX5_worthOfAll_21 : decode cX5_worthOfAll 21 = .ok (.aload_n 0, 1) := by decide +kernel
theorem dX5_worthOfAll_22 : decode cX5_worthOfAll 22 = .ok (.getfield 18, 3) := by decide +kernel
theorem dX5_worthOfAll_25 : decode cX5_worthOfAll 25 = .ok (.iload_n 2, 1) := by decide +kernel
theorem dX5_worthOfAll_26 : decode cX5_worthOfAll 26 = .ok (.iaload, 1) := by decide +kernel
theorem dX5_worthOfAll_27 : decode cX5_worthOfAll 27 = .ok (.iadd, 1) := by decide +kernel
theorem dX5_worthOfAll_28 : decode cX5_worthOfAll 28 = .ok (.iaload, 1) := by decide +kernel
theorem dX5_worthOfAll_29 : decode cX5_worthOfAll 29 = .ok (.iadd, 1) := by decide +kernel
theorem dX5_worthOfAll_30 : decode cX5_worthOfAll 30 = .ok (.istore_n 1, 1) := by decide +kernel
theorem dX5_worthOfAll_31 : decode cX5_worthOfAll 31 = .ok (.iinc 2 1, 3) := by decide +kernel
theorem dX5_worthOfAll_34 : decode cX5_worthOfAll 34 = .ok (.goto (-30), 3) := by decide +kernel
theorem dX5_worthOfAll_37 : decode cX5_worthOfAll 37 = .ok (.iload_n 1, 1) := by decide +kernel
theorem dX5_worthOfAll_38 : decode cX5_worthOfAll 38 = .ok (.ireturn, 1) := by decide +kernel
def R_X5_worthOfAll  (σ : kS) (x : Int32) (τ : kS) : Prop := Run SX jX5_worthOfAll [(.ref 29)] σ (some (.int x)) τ
def E_X5_worthOfAll_4 (l1 : Int32) (l2 : Int32) (σ : kS) (x : Int32) (τ : kS) : Prop := Ex SX jX5_worthOfAll 4 [some (.ref 29), some (.int l1), some (.int l2)] [] σ (some (.int x)) τ
set_option maxRecDepth 20000 in
theorem t_X5_worthOfAll  {σ : kS} {x : Int32} {τ : kS}  (h : E_X5_worthOfAll_4 (0 : Int32) (0 : Int32) σ x τ) : R_X5_worthOfAll  σ x τ := by
  refine x_run [some (.ref 29), none, none] (by decide +kernel) rfl (Nat.le_of_ble_eq_true rfl) ?_
  refine x_iconst (pc := 0) (0 : Int32) dX5_worthOfAll_0 (by decide +kernel) ?_
  refine x_istore_n (pc := 1) 1 dX5_worthOfAll_1 rfl (by decide) rfl ?_
  refine x_iconst (pc := 2) (0 : Int32) dX5_worthOfAll_2 (by decide +kernel) ?_
  refine x_istore_n (pc := 3) 2 dX5_worthOfAll_3 rfl (by decide) rfl ?_
  exact h
set_option maxRecDepth 20000 in
theorem t_X5_worthOfAll_4 {l1 : Int32} {l2 : Int32} {σ : kS} {x : Int32} {τ : kS}  (h : ((σ.1 29 5) ≤ l2 → x = l1 ∧ τ = σ) ∧ (¬ (σ.1 29 5) ≤ l2 → vp_in l2 6 ∧ (vp_in ((l2 * (32 : Int32)) + (σ.1 32 l2.toNatClampNeg)) 160 ∧ (E_X5_worthOfAll_4 (l1 + (σ.1 30 ((l2 * (32 : Int32)) + (σ.1 32 l2.toNatClampNeg)).toNatClampNeg)) (l2 + (1 : Int32)) σ x τ)))) : E_X5_worthOfAll_4 l1 l2 σ x τ := by
  unfold E_X5_worthOfAll_4
  refine x_iload_n (pc := 4) 2 dX5_worthOfAll_4 rfl rfl ?_
  refine x_aload_n (pc := 5) 0 dX5_worthOfAll_5 rfl rfl ?_
  refine x_getI (pc := 6) dX5_worthOfAll_6 fX5_30 rfl rfl ?_
  refine x_icmp_ge (pc := 9) 37 dX5_worthOfAll_9 (by decide) (fun c1 => ?_) (fun c1 => ?_)
  · replace h := h.1 c1
    refine x_iload_n (pc := 37) 1 dX5_worthOfAll_37 rfl rfl ?_
    exact x_ireturn2 (pc := 38) dX5_worthOfAll_38 rfl h.1 h.2
  · replace h := h.2 c1
    refine x_iload_n (pc := 12) 1 dX5_worthOfAll_12 rfl rfl ?_
    refine x_aload_n (pc := 13) 0 dX5_worthOfAll_13 rfl rfl ?_
    refine x_getR (pc := 14) dX5_worthOfAll_14 fX5_9 rfl rfl ?_
    refine x_iload_n (pc := 17) 2 dX5_worthOfAll_17 rfl rfl ?_
    refine x_bipush (pc := 18) (32 : Int32) dX5_worthOfAll_18 (by decide +kernel) ?_
    refine x_imul (pc := 20) dX5_worthOfAll_20 ?_
    refine x_aload_n (pc := 21) 0 dX5_worthOfAll_21 rfl rfl ?_
    refine x_getR (pc := 22) dX5_worthOfAll_22 fX5_18 rfl rfl ?_
    refine x_iload_n (pc := 25) 2 dX5_worthOfAll_25 rfl rfl ?_
    obtain ⟨g2, h⟩ := h
    refine x_iaload (pc := 26) (n := 6) dX5_worthOfAll_26 rfl g2 ?_
    refine x_iadd (pc := 27) dX5_worthOfAll_27 ?_
    obtain ⟨g3, h⟩ := h
    refine x_iaload (pc := 28) (n := 160) dX5_worthOfAll_28 rfl g3 ?_
    refine x_iadd (pc := 29) dX5_worthOfAll_29 ?_
    refine x_istore_n (pc := 30) 1 dX5_worthOfAll_30 rfl (by decide) rfl ?_
    refine x_iinc (pc := 31) (1 : Int32) dX5_worthOfAll_31 (by decide) rfl rfl (by decide +kernel) ?_
    refine x_goto (pc := 34) 4 dX5_worthOfAll_34 (by decide) ?_
    exact h
theorem dX5_turn_0 : decode cX5_turn 0 = .ok (.iload_n 1, 1) := by decide +kernel
theorem dX5_turn_1 : decode cX5_turn 1 = .ok (.iconst 1, 1) := by decide +kernel
theorem dX5_turn_2 : decode cX5_turn 2 = .ok (.isub, 1) := by decide +kernel
theorem dX5_turn_3 : decode cX5_turn 3 = .ok (.istore_n 2, 1) := by decide +kernel
theorem dX5_turn_4 : decode cX5_turn 4 = .ok (.iload_n 2, 1) := by decide +kernel
theorem dX5_turn_5 : decode cX5_turn 5 = .ok (.ifCond .lt 84, 3) := by decide +kernel
theorem dX5_turn_8 : decode cX5_turn 8 = .ok (.aload_n 0, 1) := by decide +kernel
theorem dX5_turn_9 : decode cX5_turn 9 = .ok (.getfield 18, 3) := by decide +kernel
theorem dX5_turn_12 : decode cX5_turn 12 = .ok (.aload_n 0, 1) := by decide +kernel
theorem dX5_turn_13 : decode cX5_turn 13 = .ok (.getfield 15, 3) := by decide +kernel
theorem dX5_turn_16 : decode cX5_turn 16 = .ok (.iload_n 2, 1) := by decide +kernel
theorem dX5_turn_17 : decode cX5_turn 17 = .ok (.iaload, 1) := by decide +kernel
theorem dX5_turn_18 : decode cX5_turn 18 = .ok (.dup2, 1) := by decide +kernel
theorem dX5_turn_19 : decode cX5_turn 19 = .ok (.iaload, 1) := by decide +kernel
theorem dX5_turn_20 : decode cX5_turn 20 = .ok (.iconst 1, 1) := by decide +kernel
theorem dX5_turn_21 : decode cX5_turn 21 = .ok (.iload_n 2, 1) := by decide +kernel
theorem dX5_turn_22 : decode cX5_turn 22 = .ok (.ishl, 1) := by decide +kernel
theorem dX5_turn_23 : decode cX5_turn 23 = .ok (.ixor, 1) := by decide +kernel
theorem dX5_turn_24 : decode cX5_turn 24 = .ok (.iastore, 1) := by decide +kernel
theorem dX5_turn_25 : decode cX5_turn 25 = .ok (.aload_n 0, 1) := by decide +kernel
theorem dX5_turn_26 : decode cX5_turn 26 = .ok (.getfield 15, 3) := by decide +kernel
theorem dX5_turn_29 : decode cX5_turn 29 = .ok (.iload_n 2, 1) := by decide +kernel
theorem dX5_turn_30 : decode cX5_turn 30 = .ok (.aload_n 0, 1) := by decide +kernel
theorem dX5_turn_31 : decode cX5_turn 31 = .ok (.getfield 15, 3) := by decide +kernel
theorem dX5_turn_34 : decode cX5_turn 34 = .ok (.iload_n 2, 1) := by decide +kernel
theorem dX5_turn_35 : decode cX5_turn 35 = .ok (.iaload, 1) := by decide +kernel
theorem dX5_turn_36 : decode cX5_turn 36 = .ok (.aload_n 0, 1) := by decide +kernel
theorem dX5_turn_37 : decode cX5_turn 37 = .ok (.getfield 30, 3) := by decide +kernel
theorem dX5_turn_40 : decode cX5_turn 40 = .ok (.if_icmp .ne 7, 3) := by decide +kernel
theorem dX5_turn_43 : decode cX5_turn 43 = .ok (.iconst 0, 1) := by decide +kernel
theorem dX5_turn_44 : decode cX5_turn 44 = .ok (.goto 11, 3) := by decide +kernel
theorem dX5_turn_47 : decode cX5_turn 47 = .ok (.aload_n 0, 1) := by decide +kernel
theorem dX5_turn_48 : decode cX5_turn 48 = .ok (.getfield 15, 3) := by decide +kernel
theorem dX5_turn_51 : decode cX5_turn 51 = .ok (.iload_n 2, 1) := by decide +kernel
theorem dX5_turn_52 : decode cX5_turn 52 = .ok (.iaload, 1) := by decide +kernel
theorem dX5_turn_53 : decode cX5_turn 53 = .ok (.iconst 1, 1) := by decide +kernel
theorem dX5_turn_54 : decode cX5_turn 54 = .ok (.iadd, 1) := by decide +kernel
theorem dX5_turn_55 : decode cX5_turn 55 = .ok (.iastore, 1) := by decide +kernel
theorem dX5_turn_56 : decode cX5_turn 56 = .ok (.aload_n 0, 1) := by decide +kernel
theorem dX5_turn_57 : decode cX5_turn 57 = .ok (.getfield 18, 3) := by decide +kernel
theorem dX5_turn_60 : decode cX5_turn 60 = .ok (.aload_n 0, 1) := by decide +kernel
theorem dX5_turn_61 : decode cX5_turn 61 = .ok (.getfield 15, 3) := by decide +kernel
theorem dX5_turn_64 : decode cX5_turn 64 = .ok (.iload_n 2, 1) := by decide +kernel
theorem dX5_turn_65 : decode cX5_turn 65 = .ok (.iaload, 1) := by decide +kernel
theorem dX5_turn_66 : decode cX5_turn 66 = .ok (.dup2, 1) := by decide +kernel
theorem dX5_turn_67 : decode cX5_turn 67 = .ok (.iaload, 1) := by decide +kernel
theorem dX5_turn_68 : decode cX5_turn 68 = .ok (.iconst 1, 1) := by decide +kernel
theorem dX5_turn_69 : decode cX5_turn 69 = .ok (.iload_n 2, 1) := by decide +kernel
theorem dX5_turn_70 : decode cX5_turn 70 = .ok (.ishl, 1) := by decide +kernel
theorem dX5_turn_71 : decode cX5_turn 71 = .ok (.ixor, 1) := by decide +kernel
theorem dX5_turn_72 : decode cX5_turn 72 = .ok (.iastore, 1) := by decide +kernel
theorem dX5_turn_73 : decode cX5_turn 73 = .ok (.aload_n 0, 1) := by decide +kernel
theorem dX5_turn_74 : decode cX5_turn 74 = .ok (.getfield 15, 3) := by decide +kernel
theorem dX5_turn_77 : decode cX5_turn 77 = .ok (.iload_n 2, 1) := by decide +kernel
theorem dX5_turn_78 : decode cX5_turn 78 = .ok (.iaload, 1) := by decide +kernel
theorem dX5_turn_79 : decode cX5_turn 79 = .ok (.ifCond .eq 4, 3) := by decide +kernel
theorem dX5_turn_82 : decode cX5_turn 82 = .ok (.return_, 1) := by decide +kernel
theorem dX5_turn_83 : decode cX5_turn 83 = .ok (.iinc 2 (-1), 3) := by decide +kernel
theorem dX5_turn_86 : decode cX5_turn 86 = .ok (.goto (-82), 3) := by decide +kernel
theorem dX5_turn_89 : decode cX5_turn 89 = .ok (.return_, 1) := by decide +kernel
def R_X5_turn (a1 : Int32) (σ : kS) (τ : kS) : Prop := Run SX jX5_turn [(.ref 29), (.int a1)] σ none τ
def E_X5_turn_4 (l2 : Int32) (σ : kS) (τ : kS) : Prop := Ex SX jX5_turn 4 [some (.ref 29), none, some (.int l2)] [] σ none τ
def E_X5_turn_55 (l2 : Int32) (y0 : Int32) (y1 : Int32) (σ : kS) (τ : kS) : Prop := Ex SX jX5_turn 55 [some (.ref 29), none, some (.int l2)] [(.int y0), (.int y1), (.ref 31)] σ none τ
set_option maxRecDepth 20000 in
theorem t_X5_turn {a1 : Int32} {σ : kS} {τ : kS}  (h : E_X5_turn_4 (a1 - (1 : Int32)) σ τ) : R_X5_turn a1 σ τ := by
  refine x_run [some (.ref 29), some (.int a1), none] (by decide +kernel) rfl (Nat.le_of_ble_eq_true rfl) ?_
  refine x_iload_n (pc := 0) 1 dX5_turn_0 rfl rfl ?_
  refine x_iconst (pc := 1) (1 : Int32) dX5_turn_1 (by decide +kernel) ?_
  refine x_isub (pc := 2) dX5_turn_2 ?_
  refine x_istore_n (pc := 3) 2 dX5_turn_3 rfl (by decide) rfl ?_
  exact x_mask [true, false, true] h
set_option maxRecDepth 20000 in
theorem t_X5_turn_4 {l2 : Int32} {σ : kS} {τ : kS}  (h : (l2 < 0 → τ = σ) ∧ (¬ l2 < 0 → vp_in l2 5 ∧ (vp_in (σ.1 31 l2.toNatClampNeg) 6 ∧ (vp_in (σ.1 31 l2.toNatClampNeg) 6 ∧ (vp_in l2 5 ∧ ((¬ (σ.1 31 l2.toNatClampNeg) = (σ.1 29 5) → vp_in l2 5 ∧ (E_X5_turn_55 l2 ((σ.1 31 l2.toNatClampNeg) + (1 : Int32)) l2 (k_si σ 32 (σ.1 31 l2.toNatClampNeg).toNatClampNeg ((σ.1 32 (σ.1 31 l2.toNatClampNeg).toNatClampNeg) ^^^ ((1 : Int32) <<< (l2 &&& 31)))) τ)) ∧ ((σ.1 31 l2.toNatClampNeg) = (σ.1 29 5) → E_X5_turn_55 l2 (0 : Int32) l2 (k_si σ 32 (σ.1 31 l2.toNatClampNeg).toNatClampNeg ((σ.1 32 (σ.1 31 l2.toNatClampNeg).toNatClampNeg) ^^^ ((1 : Int32) <<< (l2 &&& 31)))) τ))))))) : E_X5_turn_4 l2 σ τ := by
  unfold E_X5_turn_4
  refine x_iload_n (pc := 4) 2 dX5_turn_4 rfl rfl ?_
  refine x_if_lt (pc := 5) 89 dX5_turn_5 (by decide) (fun c1 => ?_) (fun c1 => ?_)
  · replace h := h.1 c1
    exact x_return2 (pc := 89) dX5_turn_89 rfl h
  · replace h := h.2 c1
    refine x_aload_n (pc := 8) 0 dX5_turn_8 rfl rfl ?_
    refine x_getR (pc := 9) dX5_turn_9 fX5_18 rfl rfl ?_
    refine x_aload_n (pc := 12) 0 dX5_turn_12 rfl rfl ?_
    refine x_getR (pc := 13) dX5_turn_13 fX5_15 rfl rfl ?_
    refine x_iload_n (pc := 16) 2 dX5_turn_16 rfl rfl ?_
    obtain ⟨g2, h⟩ := h
    refine x_iaload (pc := 17) (n := 5) dX5_turn_17 rfl g2 ?_
    refine x_dup2 (pc := 18) dX5_turn_18 rfl rfl ?_
    obtain ⟨g3, h⟩ := h
    refine x_iaload (pc := 19) (n := 6) dX5_turn_19 rfl g3 ?_
    refine x_iconst (pc := 20) (1 : Int32) dX5_turn_20 (by decide +kernel) ?_
    refine x_iload_n (pc := 21) 2 dX5_turn_21 rfl rfl ?_
    refine x_ishl (pc := 22) dX5_turn_22 ?_
    refine x_ixor (pc := 23) dX5_turn_23 ?_
    obtain ⟨g4, h⟩ := h
    refine x_iastore (pc := 24) (n := 6) dX5_turn_24 rfl g4 ?_
    refine x_aload_n (pc := 25) 0 dX5_turn_25 rfl rfl ?_
    refine x_getR (pc := 26) dX5_turn_26 fX5_15 rfl rfl ?_
    refine x_iload_n (pc := 29) 2 dX5_turn_29 rfl rfl ?_
    refine x_aload_n (pc := 30) 0 dX5_turn_30 rfl rfl ?_
    refine x_getR (pc := 31) dX5_turn_31 fX5_15 rfl rfl ?_
    refine x_iload_n (pc := 34) 2 dX5_turn_34 rfl rfl ?_
    obtain ⟨g5, h⟩ := h
    refine x_iaload (pc := 35) (n := 5) dX5_turn_35 rfl g5 ?_
    refine x_aload_n (pc := 36) 0 dX5_turn_36 rfl rfl ?_
    refine x_getI (pc := 37) dX5_turn_37 fX5_30 rfl rfl ?_
    refine x_icmp_ne (pc := 40) 47 dX5_turn_40 (by decide) (fun c6 => ?_) (fun c6 => ?_)
    · replace h := h.1 c6
      refine x_aload_n (pc := 47) 0 dX5_turn_47 rfl rfl ?_
      refine x_getR (pc := 48) dX5_turn_48 fX5_15 rfl rfl ?_
      refine x_iload_n (pc := 51) 2 dX5_turn_51 rfl rfl ?_
      obtain ⟨g7, h⟩ := h
      refine x_iaload (pc := 52) (n := 5) dX5_turn_52 rfl g7 ?_
      refine x_iconst (pc := 53) (1 : Int32) dX5_turn_53 (by decide +kernel) ?_
      refine x_iadd (pc := 54) dX5_turn_54 ?_
      exact h
    · replace h := h.2 c6
      refine x_iconst (pc := 43) (0 : Int32) dX5_turn_43 (by decide +kernel) ?_
      refine x_goto (pc := 44) 55 dX5_turn_44 (by decide) ?_
      exact h
set_option maxRecDepth 20000 in
theorem t_X5_turn_55 {l2 : Int32} {y0 : Int32} {y1 : Int32} {σ : kS} {τ : kS}  (h : vp_in y1 5 ∧ (vp_in l2 5 ∧ (vp_in ((k_si σ 31 y1.toNatClampNeg y0).1 31 l2.toNatClampNeg) 6 ∧ (vp_in ((k_si σ 31 y1.toNatClampNeg y0).1 31 l2.toNatClampNeg) 6 ∧ (vp_in l2 5 ∧ ((((k_si σ 31 y1.toNatClampNeg y0).1 31 l2.toNatClampNeg) = 0 → E_X5_turn_4 (l2 + (-1 : Int32)) (k_si (k_si σ 31 y1.toNatClampNeg y0) 32 ((k_si σ 31 y1.toNatClampNeg y0).1 31 l2.toNatClampNeg).toNatClampNeg ((σ.1 32 ((k_si σ 31 y1.toNatClampNeg y0).1 31 l2.toNatClampNeg).toNatClampNeg) ^^^ ((1 : Int32) <<< (l2 &&& 31)))) τ) ∧ (¬ ((k_si σ 31 y1.toNatClampNeg y0).1 31 l2.toNatClampNeg) = 0 → τ = (k_si (k_si σ 31 y1.toNatClampNeg y0) 32 ((k_si σ 31 y1.toNatClampNeg y0).1 31 l2.toNatClampNeg).toNatClampNeg ((σ.1 32 ((k_si σ 31 y1.toNatClampNeg y0).1 31 l2.toNatClampNeg).toNatClampNeg) ^^^ ((1 : Int32) <<< (l2 &&& 31))))))))))) : E_X5_turn_55 l2 y0 y1 σ τ := by
  unfold E_X5_turn_55
  obtain ⟨g1, h⟩ := h
  refine x_iastore (pc := 55) (n := 5) dX5_turn_55 rfl g1 ?_
  refine x_aload_n (pc := 56) 0 dX5_turn_56 rfl rfl ?_
  refine x_getR (pc := 57) dX5_turn_57 fX5_18 rfl rfl ?_
  refine x_aload_n (pc := 60) 0 dX5_turn_60 rfl rfl ?_
  refine x_getR (pc := 61) dX5_turn_61 fX5_15 rfl rfl ?_
  refine x_iload_n (pc := 64) 2 dX5_turn_64 rfl rfl ?_
  obtain ⟨g2, h⟩ := h
  refine x_iaload (pc := 65) (n := 5) dX5_turn_65 rfl g2 ?_
  refine x_dup2 (pc := 66) dX5_turn_66 rfl rfl ?_
  obtain ⟨g3, h⟩ := h
  refine x_iaload (pc := 67) (n := 6) dX5_turn_67 rfl g3 ?_
  refine x_iconst (pc := 68) (1 : Int32) dX5_turn_68 (by decide +kernel) ?_
  refine x_iload_n (pc := 69) 2 dX5_turn_69 rfl rfl ?_
  refine x_ishl (pc := 70) dX5_turn_70 ?_
  refine x_ixor (pc := 71) dX5_turn_71 ?_
  obtain ⟨g4, h⟩ := h
  refine x_iastore (pc := 72) (n := 6) dX5_turn_72 rfl g4 ?_
  refine x_aload_n (pc := 73) 0 dX5_turn_73 rfl rfl ?_
  refine x_getR (pc := 74) dX5_turn_74 fX5_15 rfl rfl ?_
  refine x_iload_n (pc := 77) 2 dX5_turn_77 rfl rfl ?_
  obtain ⟨g5, h⟩ := h
  refine x_iaload (pc := 78) (n := 5) dX5_turn_78 rfl g5 ?_
  refine x_if_eq (pc := 79) 83 dX5_turn_79 (by decide) (fun c6 => ?_) (fun c6 => ?_)
  · replace h := h.1 c6
    refine x_iinc (pc := 83) (-1 : Int32) dX5_turn_83 (by decide) rfl rfl (by decide +kernel) ?_
    refine x_goto (pc := 86) 4 dX5_turn_86 (by decide) ?_
    exact h
  · replace h := h.2 c6
    exact x_return2 (pc := 82) dX5_turn_82 rfl h
theorem dX5_find_0 : decode cX5_find 0 = .ok (.aload_n 0, 1) := by decide +kernel
theorem dX5_find_1 : decode cX5_find 1 = .ok (.aload_n 1, 1) := by decide +kernel
theorem dX5_find_2 : decode cX5_find 2 = .ok (.getfield 24, 3) := by decide +kernel
theorem dX5_find_5 : decode cX5_find 5 = .ok (.putfield 30, 3) := by decide +kernel
theorem dX5_find_8 : decode cX5_find 8 = .ok (.aload_n 0, 1) := by decide +kernel
theorem dX5_find_9 : decode cX5_find 9 = .ok (.aload_n 1, 1) := by decide +kernel
theorem dX5_find_10 : decode cX5_find 10 = .ok (.aload_n 2, 1) := by decide +kernel
theorem dX5_find_11 : decode cX5_find 11 = .ok (.invokevirtual 33, 3) := by decide +kernel
theorem dX5_find_14 : decode cX5_find 14 = .ok (.aload_n 0, 1) := by decide +kernel
theorem dX5_find_15 : decode cX5_find 15 = .ok (.getfield 15, 3) := by decide +kernel
theorem dX5_find_18 : decode cX5_find 18 = .ok (.iconst 0, 1) := by decide +kernel
theorem dX5_find_19 : decode cX5_find 19 = .ok (.invokestatic 37, 3) := by decide +kernel
theorem dX5_find_22 : decode cX5_find 22 = .ok (.aload_n 0, 1) := by decide +kernel
theorem dX5_find_23 : decode cX5_find 23 = .ok (.getfield 18, 3) := by decide +kernel
theorem dX5_find_26 : decode cX5_find 26 = .ok (.iconst 0, 1) := by decide +kernel
theorem dX5_find_27 : decode cX5_find 27 = .ok (.invokestatic 37, 3) := by decide +kernel
theorem dX5_find_30 : decode cX5_find 30 = .ok (.aload_n 0, 1) := by decide +kernel
theorem dX5_find_31 : decode cX5_find 31 = .ok (.getfield 18, 3) := by decide +kernel
theorem dX5_find_34 : decode cX5_find 34 = .ok (.iconst 0, 1) := by decide +kernel
theorem dX5_find_35 : decode cX5_find 35 = .ok (.iconst 1, 1) := by decide +kernel
theorem dX5_find_36 : decode cX5_find 36 = .ok (.aload_n 1, 1) := by decide +kernel
theorem dX5_find_37 : decode cX5_find 37 = .ok (.getfield 43, 3) := by decide +kernel
theorem dX5_find_40 : decode cX5_find 40 = .ok (.ishl, 1) := by decide +kernel
theorem dX5_find_41 : decode cX5_find 41 = .ok (.iconst 1, 1) := by decide +kernel
theorem dX5_find_42 : decode cX5_find 42 = .ok (.isub, 1) := by decide +kernel
theorem dX5_find_43 : decode cX5_find 43 = .ok (.iastore, 1) := by decide +kernel
theorem dX5_find_44 : decode cX5_find 44 = .ok (.aload_n 0, 1) := by decide +kernel
theorem dX5_find_45 : decode cX5_find 45 = .ok (.bipush (-16), 2) := by decide +kernel
theorem dX5_find_47 : decode cX5_find 47 = .ok (.putfield 46, 3) := by decide +kernel
theorem dX5_find_50 : decode cX5_find 50 = .ok (.aload_n 0, 1) := by decide +kernel
theorem dX5_find_51 : decode cX5_find 51 = .ok (.getfield 30, 3) := by decide +kernel
theorem dX5_find_54 : decode cX5_find 54 = .ok (.iconst 1, 1) := by decide +kernel
theorem dX5_find_55 : decode cX5_find 55 = .ok (.iadd, 1) := by decide +kernel
theorem dX5_find_56 : decode cX5_find 56 = .ok (.aload_n 1, 1) := by decide +kernel
theorem dX5_find_57 : decode cX5_find 57 = .ok (.getfield 43, 3) := by decide +kernel
theorem dX5_find_60 : decode cX5_find 60 = .ok (.invokestatic 49, 3) := by decide +kernel
theorem dX5_find_63 : decode cX5_find 63 = .ok (.istore_n 3, 1) := by decide +kernel
theorem dX5_find_64 : decode cX5_find 64 = .ok (.iconst 0, 1) := by decide +kernel
theorem dX5_find_65 : decode cX5_find 65 = .ok (.istore 4, 2) := by decide +kernel
theorem dX5_find_67 : decode cX5_find 67 = .ok (.iload 4, 2) := by decide +kernel
theorem dX5_find_69 : decode cX5_find 69 = .ok (.iload_n 3, 1) := by decide +kernel
theorem dX5_find_70 : decode cX5_find 70 = .ok (.if_icmp .ge 52, 3) := by decide +kernel
theorem dX5_find_73 : decode cX5_find 73 = .ok (.aload_n 0, 1) := by decide +kernel
theorem dX5_find_74 : decode cX5_find 74 = .ok (.invokevirtual 53, 3) := by decide +kernel
theorem dX5_find_77 : decode cX5_find 77 = .ok (.istore 5, 2) := by decide +kernel
theorem dX5_find_79 : decode cX5_find 79 = .ok (.iload 5, 2) := by decide +kernel
theorem dX5_find_81 : decode cX5_find 81 = .ok (.aload_n 0, 1) := by decide +kernel
theorem dX5_find_82 : decode cX5_find 82 = .ok (.getfield 46, 3) := by decide +kernel
theorem dX5_find_85 : decode cX5_find 85 = .ok (.if_icmp .le 23, 3) := by decide +kernel
theorem dX5_find_88 : decode cX5_find 88 = .ok (.aload_n 0, 1) := by decide +kernel
theorem dX5_find_89 : decode cX5_find 89 = .ok (.iload 5, 2) := by decide +kernel
theorem dX5_find_91 : decode cX5_find 91 = .ok (.putfield 46, 3) := by decide +kernel
theorem dX5_find_94 : decode cX5_find 94 = .ok (.aload_n 0, 1) := by decide +kernel
theorem dX5_find_95 : decode cX5_find 95 = .ok (.getfield 15, 3) := by decide +kernel
theorem dX5_find_98 : decode cX5_find 98 = .ok (.iconst 0, 1) := by decide +kernel
theorem dX5_find_99 : decode cX5_find 99 = .ok (.aload_n 0, 1) := by decide +kernel
theorem dX5_find_100 : decode cX5_find 100 = .ok (.getfield 21, 3) := by decide +kernel
theorem dX5_find_103 : decode cX5_find 103 = .ok (.iconst 0, 1) := by decide +kernel
theorem dX5_find_104 : decode cX5_find 104 = .ok (.iconst 5, 1) := by decide +kernel
theorem dX5_find_105 : decode cX5_find 105 = .ok (.invokestatic 57, 3) := by decide +kernel
theorem dX5_find_108 : decode cX5_find 108 = .ok (.aload_n 0, 1) := by decide +kernel
theorem dX5_find_109 : decode cX5_find 109 = .ok (.aload_n 1, 1) := by decide +kernel
theorem dX5_find_110 : decode cX5_find 110 = .ok (.getfield 43, 3) := by decide +kernel
theorem dX5_find_113 : decode cX5_find 113 = .ok (.invokevirtual 63, 3) := by decide +kernel
theorem dX5_find_116 : decode cX5_find 116 = .ok (.iinc 4 1, 3) := by decide +kernel
theorem dX5_find_119 : decode cX5_find 119 = .ok (.goto (-52), 3) := by decide +kernel
theorem dX5_find_122 : decode cX5_find 122 = .ok (.return_, 1) := by decide +kernel
def R_X5_find  (σ : kS) (τ : kS) : Prop := Run SX jX5_find [(.ref 29), (.ref 3), (.ref 27)] σ none τ
def E_X5_find_67 (l3 : Int32) (l4 : Int32) (σ : kS) (τ : kS) : Prop := Ex SX jX5_find 67 [some (.ref 29), some (.ref 3), none, some (.int l3), some (.int l4), none] [] σ none τ
set_option maxRecDepth 20000 in
theorem t_X5_find  {σ : kS} {τ : kS}  (h : ∃ s1 : kS, R_X5_weigh  (k_si σ 29 5 (σ.1 3 1)) s1 ∧ (∃ s2 : kS, R_J7_fill_53178 31 5 (0 : Int32) s1 s2 ∧ (∃ s3 : kS, R_J7_fill_53178 32 6 (0 : Int32) s2 s3 ∧ (∃ (x5 : Int32) (s4 : kS), R_X8_power ((s3.1 29 5) + (1 : Int32)) (s3.1 3 2) (k_si (k_si s3 32 0 (((1 : Int32) <<< ((s3.1 3 2) &&& 31)) - (1 : Int32))) 29 4 (-16 : Int32)) x5 s4 ∧ (E_X5_find_67 x5 (0 : Int32) s4 τ))))) : R_X5_find  σ τ := by
  refine x_run [some (.ref 29), some (.ref 3), some (.ref 27), none, none, none] (by decide +kernel) rfl (Nat.le_of_ble_eq_true rfl) ?_
  refine x_aload_n (pc := 0) 0 dX5_find_0 rfl rfl ?_
  refine x_aload_n (pc := 1) 1 dX5_find_1 rfl rfl ?_
  refine x_getI (pc := 2) dX5_find_2 fX5_24 rfl rfl ?_
  refine x_putI (pc := 5) dX5_find_5 pX5_30 rfl rfl ?_
  refine x_aload_n (pc := 8) 0 dX5_find_8 rfl rfl ?_
  refine x_aload_n (pc := 9) 1 dX5_find_9 rfl rfl ?_
  refine x_aload_n (pc := 10) 2 dX5_find_10 rfl rfl ?_
  obtain ⟨s1, hr, h⟩ := h
  refine x_callV (pc := 11) [(.ref 3), (.ref 27)] [] dX5_find_11 ⟨⟨hX5_weigh.1, hX5_weigh.2.1, hX5_weigh.2.2, by decide⟩, mX5_33, vX5_weigh.1, vX5_weigh.2⟩ (ci := 5) rfl rfl rfl rfl (Nat.le_of_ble_eq_true rfl) hr ?_
  refine x_aload_n (pc := 14) 0 dX5_find_14 rfl rfl ?_
  refine x_getR (pc := 15) dX5_find_15 fX5_15 rfl rfl ?_
  refine x_iconst (pc := 18) (0 : Int32) dX5_find_18 (by decide +kernel) ?_
  obtain ⟨s2, hr, h⟩ := h
  refine x_callS (pc := 19) [(.ref 31), (.int (0 : Int32))] [] dX5_find_19 ⟨⟨hJ7_fill_53178.1, hJ7_fill_53178.2.1, hJ7_fill_53178.2.2, by decide⟩, mX5_37, sJ7_fill_53178⟩ rfl rfl (Nat.le_of_ble_eq_true rfl) hr ?_
  refine x_aload_n (pc := 22) 0 dX5_find_22 rfl rfl ?_
  refine x_getR (pc := 23) dX5_find_23 fX5_18 rfl rfl ?_
  refine x_iconst (pc := 26) (0 : Int32) dX5_find_26 (by decide +kernel) ?_
  obtain ⟨s3, hr, h⟩ := h
  refine x_callS (pc := 27) [(.ref 32), (.int (0 : Int32))] [] dX5_find_27 ⟨⟨hJ7_fill_53178.1, hJ7_fill_53178.2.1, hJ7_fill_53178.2.2, by decide⟩, mX5_37, sJ7_fill_53178⟩ rfl rfl (Nat.le_of_ble_eq_true rfl) hr ?_
  refine x_aload_n (pc := 30) 0 dX5_find_30 rfl rfl ?_
  refine x_getR (pc := 31) dX5_find_31 fX5_18 rfl rfl ?_
  refine x_iconst (pc := 34) (0 : Int32) dX5_find_34 (by decide +kernel) ?_
  refine x_iconst (pc := 35) (1 : Int32) dX5_find_35 (by decide +kernel) ?_
  refine x_aload_n (pc := 36) 1 dX5_find_36 rfl rfl ?_
  refine x_getI (pc := 37) dX5_find_37 fX5_43 rfl rfl ?_
  refine x_ishl (pc := 40) dX5_find_40 ?_
  refine x_iconst (pc := 41) (1 : Int32) dX5_find_41 (by decide +kernel) ?_
  refine x_isub (pc := 42) dX5_find_42 ?_
  refine x_iastoreK (pc := 43) (n := 6) 0 dX5_find_43 rfl (by decide) (by decide +kernel) ?_
  refine x_aload_n (pc := 44) 0 dX5_find_44 rfl rfl ?_
  refine x_bipush (pc := 45) (-16 : Int32) dX5_find_45 (by decide +kernel) ?_
  refine x_putI (pc := 47) dX5_find_47 pX5_46 rfl rfl ?_
  refine x_aload_n (pc := 50) 0 dX5_find_50 rfl rfl ?_
  refine x_getI (pc := 51) dX5_find_51 fX5_30 rfl rfl ?_
  refine x_iconst (pc := 54) (1 : Int32) dX5_find_54 (by decide +kernel) ?_
  refine x_iadd (pc := 55) dX5_find_55 ?_
  refine x_aload_n (pc := 56) 1 dX5_find_56 rfl rfl ?_
  refine x_getI (pc := 57) dX5_find_57 fX5_43 rfl rfl ?_
  obtain ⟨x5, s4, hr, h⟩ := h
  refine x_callN (pc := 60) [(.int ((s3.1 29 5) + (1 : Int32))), (.int (s3.1 3 2))] [] dX5_find_60 ⟨⟨hX8_power.1, hX8_power.2.1, hX8_power.2.2, by decide⟩, ⟨_, List.mem_of_getElem? (i := 2) rfl⟩, sX8_power⟩ rfl rfl (Nat.le_of_ble_eq_true rfl) hr ?_
  refine x_istore_n (pc := 63) 3 dX5_find_63 rfl (by decide) rfl ?_
  refine x_iconst (pc := 64) (0 : Int32) dX5_find_64 (by decide +kernel) ?_
  refine x_istore (pc := 65) dX5_find_65 (by decide) rfl ?_
  exact x_mask [true, true, false, true, true, false] h
set_option maxRecDepth 20000 in
theorem t_X5_find_67 {l3 : Int32} {l4 : Int32} {σ : kS} {τ : kS}  (h : (l3 ≤ l4 → τ = σ) ∧ (¬ l3 ≤ l4 → ∃ (x3 : Int32) (s2 : kS), R_X5_worthOfAll  σ x3 s2 ∧ ((x3 ≤ (s2.1 29 4) → ∃ s5 : kS, R_X5_turn (s2.1 3 2) s2 s5 ∧ (E_X5_find_67 l3 (l4 + (1 : Int32)) s5 τ)) ∧ (¬ x3 ≤ (s2.1 29 4) → ∃ s6 : kS, R_X5_turn (s2.1 3 2) (k_cp (k_si s2 29 4 x3) 31 33 0 0 5) s6 ∧ (E_X5_find_67 l3 (l4 + (1 : Int32)) s6 τ))))) : E_X5_find_67 l3 l4 σ τ := by
  unfold E_X5_find_67
  refine x_iload (pc := 67) dX5_find_67 rfl ?_
  refine x_iload_n (pc := 69) 3 dX5_find_69 rfl rfl ?_
  refine x_icmp_ge (pc := 70) 122 dX5_find_70 (by decide) (fun c1 => ?_) (fun c1 => ?_)
  · replace h := h.1 c1
    exact x_return2 (pc := 122) dX5_find_122 rfl h
  · replace h := h.2 c1
    refine x_aload_n (pc := 73) 0 dX5_find_73 rfl rfl ?_
    obtain ⟨x3, s2, hr, h⟩ := h
    refine x_callV (pc := 74) [] [] dX5_find_74 ⟨⟨hX5_worthOfAll.1, hX5_worthOfAll.2.1, hX5_worthOfAll.2.2, by decide⟩, mX5_53, vX5_worthOfAll.1, vX5_worthOfAll.2⟩ (ci := 5) rfl rfl rfl rfl (Nat.le_of_ble_eq_true rfl) hr ?_
    refine x_istore (pc := 77) dX5_find_77 (by decide) rfl ?_
    refine x_iload (pc := 79) dX5_find_79 rfl ?_
    refine x_aload_n (pc := 81) 0 dX5_find_81 rfl rfl ?_
    refine x_getI (pc := 82) dX5_find_82 fX5_46 rfl rfl ?_
    refine x_icmp_le (pc := 85) 108 dX5_find_85 (by decide) (fun c4 => ?_) (fun c4 => ?_)
    · replace h := h.1 c4
      refine x_aload_n (pc := 108) 0 dX5_find_108 rfl rfl ?_
      refine x_aload_n (pc := 109) 1 dX5_find_109 rfl rfl ?_
      refine x_getI (pc := 110) dX5_find_110 fX5_43 rfl rfl ?_
      obtain ⟨s5, hr, h⟩ := h
      refine x_callV (pc := 113) [(.int (s2.1 3 2))] [] dX5_find_113 ⟨⟨hX5_turn.1, hX5_turn.2.1, hX5_turn.2.2, by decide⟩, mX5_63, vX5_turn.1, vX5_turn.2⟩ (ci := 5) rfl rfl rfl rfl (Nat.le_of_ble_eq_true rfl) hr ?_
      refine x_iinc (pc := 116) (1 : Int32) dX5_find_116 (by decide) rfl rfl (by decide +kernel) ?_
      refine x_goto (pc := 119) 67 dX5_find_119 (by decide) ?_
      exact x_mask [true, true, false, true, true, false] h
    · replace h := h.2 c4
      refine x_aload_n (pc := 88) 0 dX5_find_88 rfl rfl ?_
      refine x_iload (pc := 89) dX5_find_89 rfl ?_
      refine x_putI (pc := 91) dX5_find_91 pX5_46 rfl rfl ?_
      refine x_aload_n (pc := 94) 0 dX5_find_94 rfl rfl ?_
      refine x_getR (pc := 95) dX5_find_95 fX5_15 rfl rfl ?_
      refine x_iconst (pc := 98) (0 : Int32) dX5_find_98 (by decide +kernel) ?_
      refine x_aload_n (pc := 99) 0 dX5_find_99 rfl rfl ?_
      refine x_getR (pc := 100) dX5_find_100 fX5_21 rfl rfl ?_
      refine x_iconst (pc := 103) (0 : Int32) dX5_find_103 (by decide +kernel) ?_
      refine x_iconst (pc := 104) (5 : Int32) dX5_find_104 (by decide +kernel) ?_
      refine x_copyiK (pc := 105) (n0 := 5) (n1 := 5) 0 0 5 dX5_find_105 acX5_57 rfl rfl (by decide +kernel) (by decide +kernel) (by decide +kernel) ?_
      refine x_aload_n (pc := 108) 0 dX5_find_108 rfl rfl ?_
      refine x_aload_n (pc := 109) 1 dX5_find_109 rfl rfl ?_
      refine x_getI (pc := 110) dX5_find_110 fX5_43 rfl rfl ?_
      obtain ⟨s6, hr, h⟩ := h
      refine x_callV (pc := 113) [(.int (s2.1 3 2))] [] dX5_find_113 ⟨⟨hX5_turn.1, hX5_turn.2.1, hX5_turn.2.2, by decide⟩, mX5_63, vX5_turn.1, vX5_turn.2⟩ (ci := 5) rfl rfl rfl rfl (Nat.le_of_ble_eq_true rfl) hr ?_
      refine x_iinc (pc := 116) (1 : Int32) dX5_find_116 (by decide) rfl rfl (by decide +kernel) ?_
      refine x_goto (pc := 119) 67 dX5_find_119 (by decide) ?_
      exact x_mask [true, true, false, true, true, false] h
theorem dX5_fullFields_0 : decode cX5_fullFields 0 = .ok (.aload_n 0, 1) := by decide +kernel
theorem dX5_fullFields_1 : decode cX5_fullFields 1 = .ok (.getfield 46, 3) := by decide +kernel
theorem dX5_fullFields_4 : decode cX5_fullFields 4 = .ok (.bipush 16, 2) := by decide +kernel
theorem dX5_fullFields_6 : decode cX5_fullFields 6 = .ok (.iadd, 1) := by decide +kernel
theorem dX5_fullFields_7 : decode cX5_fullFields 7 = .ok (.iconst 1, 1) := by decide +kernel
theorem dX5_fullFields_8 : decode cX5_fullFields 8 = .ok (.isub, 1) := by decide +kernel
theorem dX5_fullFields_9 : decode cX5_fullFields 9 = .ok (.bipush 16, 2) := by decide +kernel
theorem dX5_fullFields_11 : decode cX5_fullFields 11 = .ok (.idiv, 1) := by decide +kernel
theorem dX5_fullFields_12 : decode cX5_fullFields 12 = .ok (.ireturn, 1) := by decide +kernel
def R_X5_fullFields  (σ : kS) (x : Int32) (τ : kS) : Prop := Run SX jX5_fullFields [(.ref 29)] σ (some (.int x)) τ
set_option maxRecDepth 20000 in
theorem t_X5_fullFields  {σ : kS} {x : Int32} {τ : kS}  (h : x = ((((σ.1 29 4) + (16 : Int32)) - (1 : Int32)) / (16 : Int32)) ∧ τ = σ) : R_X5_fullFields  σ x τ := by
  refine x_run [some (.ref 29)] (by decide +kernel) rfl (Nat.le_of_ble_eq_true rfl) ?_
  refine x_aload_n (pc := 0) 0 dX5_fullFields_0 rfl rfl ?_
  refine x_getI (pc := 1) dX5_fullFields_1 fX5_46 rfl rfl ?_
  refine x_bipush (pc := 4) (16 : Int32) dX5_fullFields_4 (by decide +kernel) ?_
  refine x_iadd (pc := 6) dX5_fullFields_6 ?_
  refine x_iconst (pc := 7) (1 : Int32) dX5_fullFields_7 (by decide +kernel) ?_
  refine x_isub (pc := 8) dX5_fullFields_8 ?_
  refine x_bipush (pc := 9) (16 : Int32) dX5_fullFields_9 (by decide +kernel) ?_
  refine x_idiv (pc := 11) dX5_fullFields_11 (by decide) ?_
  exact x_ireturn2 (pc := 12) dX5_fullFields_12 rfl h.1 h.2
theorem dX5_bestPlace_0 : decode cX5_bestPlace 0 = .ok (.aload_n 0, 1) := by decide +kernel
theorem dX5_bestPlace_1 : decode cX5_bestPlace 1 = .ok (.getfield 21, 3) := by decide +kernel
theorem dX5_bestPlace_4 : decode cX5_bestPlace 4 = .ok (.iload_n 1, 1) := by decide +kernel
theorem dX5_bestPlace_5 : decode cX5_bestPlace 5 = .ok (.iaload, 1) := by decide +kernel
theorem dX5_bestPlace_6 : decode cX5_bestPlace 6 = .ok (.aload_n 0, 1) := by decide +kernel
theorem dX5_bestPlace_7 : decode cX5_bestPlace 7 = .ok (.getfield 30, 3) := by decide +kernel
theorem dX5_bestPlace_10 : decode cX5_bestPlace 10 = .ok (.if_icmp .ne 7, 3) := by decide +kernel
theorem dX5_bestPlace_13 : decode cX5_bestPlace 13 = .ok (.iconst (-1), 1) := by decide +kernel
theorem dX5_bestPlace_14 : decode cX5_bestPlace 14 = .ok (.goto 9, 3) := by decide +kernel
theorem dX5_bestPlace_17 : decode cX5_bestPlace 17 = .ok (.aload_n 0, 1) := by decide +kernel
theorem dX5_bestPlace_18 : decode cX5_bestPlace 18 = .ok (.getfield 21, 3) := by decide +kernel
theorem dX5_bestPlace_21 : decode cX5_bestPlace 21 = .ok (.iload_n 1, 1) := by decide +kernel
theorem dX5_bestPlace_22 : decode cX5_bestPlace 22 = .ok (.iaload, 1) := by decide +kernel
theorem dX5_bestPlace_23 : decode cX5_bestPlace 23 = .ok (.ireturn, 1) := by decide +kernel
def R_X5_bestPlace (a1 : Int32) (σ : kS) (x : Int32) (τ : kS) : Prop := Run SX jX5_bestPlace [(.ref 29), (.int a1)] σ (some (.int x)) τ
set_option maxRecDepth 20000 in
theorem t_X5_bestPlace {a1 : Int32} {σ : kS} {x : Int32} {τ : kS}  (h : vp_in a1 5 ∧ ((¬ (σ.1 33 a1.toNatClampNeg) = (σ.1 29 5) → vp_in a1 5 ∧ (x = (σ.1 33 a1.toNatClampNeg) ∧ τ = σ)) ∧ ((σ.1 33 a1.toNatClampNeg) = (σ.1 29 5) → x = (-1 : Int32) ∧ τ = σ))) : R_X5_bestPlace a1 σ x τ := by
  refine x_run [some (.ref 29), some (.int a1)] (by decide +kernel) rfl (Nat.le_of_ble_eq_true rfl) ?_
  refine x_aload_n (pc := 0) 0 dX5_bestPlace_0 rfl rfl ?_
  refine x_getR (pc := 1) dX5_bestPlace_1 fX5_21 rfl rfl ?_
  refine x_iload_n (pc := 4) 1 dX5_bestPlace_4 rfl rfl ?_
  obtain ⟨g1, h⟩ := h
  refine x_iaload (pc := 5) (n := 5) dX5_bestPlace_5 rfl g1 ?_
  refine x_aload_n (pc := 6) 0 dX5_bestPlace_6 rfl rfl ?_
  refine x_getI (pc := 7) dX5_bestPlace_7 fX5_30 rfl rfl ?_
  refine x_icmp_ne (pc := 10) 17 dX5_bestPlace_10 (by decide) (fun c2 => ?_) (fun c2 => ?_)
  · replace h := h.1 c2
    refine x_aload_n (pc := 17) 0 dX5_bestPlace_17 rfl rfl ?_
    refine x_getR (pc := 18) dX5_bestPlace_18 fX5_21 rfl rfl ?_
    refine x_iload_n (pc := 21) 1 dX5_bestPlace_21 rfl rfl ?_
    obtain ⟨g3, h⟩ := h
    refine x_iaload (pc := 22) (n := 5) dX5_bestPlace_22 rfl g3 ?_
    exact x_ireturn2 (pc := 23) dX5_bestPlace_23 rfl h.1 h.2
  · replace h := h.2 c2
    refine x_iconst (pc := 13) (-1 : Int32) dX5_bestPlace_13 (by decide +kernel) ?_
    refine x_goto (pc := 14) 23 dX5_bestPlace_14 (by decide) ?_
    exact x_ireturn2 (pc := 23) dX5_bestPlace_23 rfl h.1 h.2
theorem dX6_put_0 : decode cX6_put 0 = .ok (.aload_n 0, 1) := by decide +kernel
theorem dX6_put_1 : decode cX6_put 1 = .ok (.getfield 15, 3) := by decide +kernel
theorem dX6_put_4 : decode cX6_put 4 = .ok (.sipush 130, 3) := by decide +kernel
theorem dX6_put_7 : decode cX6_put 7 = .ok (.if_icmp .ge 23, 3) := by decide +kernel
theorem dX6_put_10 : decode cX6_put 10 = .ok (.aload_n 0, 1) := by decide +kernel
theorem dX6_put_11 : decode cX6_put 11 = .ok (.getfield 9, 3) := by decide +kernel
theorem dX6_put_14 : decode cX6_put 14 = .ok (.aload_n 0, 1) := by decide +kernel
theorem dX6_put_15 : decode cX6_put 15 = .ok (.getfield 15, 3) := by decide +kernel
theorem dX6_put_18 : decode cX6_put 18 = .ok (.iload_n 1, 1) := by decide +kernel
theorem dX6_put_19 : decode cX6_put 19 = .ok (.iastore, 1) := by decide +kernel
theorem dX6_put_20 : decode cX6_put 20 = .ok (.aload_n 0, 1) := by decide +kernel
theorem dX6_put_21 : decode cX6_put 21 = .ok (.dup, 1) := by decide +kernel
theorem dX6_put_22 : decode cX6_put 22 = .ok (.getfield 15, 3) := by decide +kernel
theorem dX6_put_25 : decode cX6_put 25 = .ok (.iconst 1, 1) := by decide +kernel
theorem dX6_put_26 : decode cX6_put 26 = .ok (.iadd, 1) := by decide +kernel
theorem dX6_put_27 : decode cX6_put 27 = .ok (.putfield 15, 3) := by decide +kernel
theorem dX6_put_30 : decode cX6_put 30 = .ok (.aload_n 0, 1) := by decide +kernel
theorem dX6_put_31 : decode cX6_put 31 = .ok (.getfield 15, 3) := by decide +kernel
theorem dX6_put_34 : decode cX6_put 34 = .ok (.ireturn, 1) := by decide +kernel
def R_X6_put (a1 : Int32) (σ : kS) (x : Int32) (τ : kS) : Prop := Run SX jX6_put [(.ref 1), (.int a1)] σ (some (.int x)) τ
set_option maxRecDepth 20000 in
theorem t_X6_put {a1 : Int32} {σ : kS} {x : Int32} {τ : kS}  (h : ((130 : Int32) ≤ (σ.1 1 1) → x = (σ.1 1 1) ∧ τ = σ) ∧ (¬ (130 : Int32) ≤ (σ.1 1 1) → vp_in (σ.1 1 1) 130 ∧ (x = ((σ.1 1 1) + (1 : Int32)) ∧ τ = (k_si (k_si σ 2 (σ.1 1 1).toNatClampNeg a1) 1 1 ((σ.1 1 1) + (1 : Int32)))))) : R_X6_put a1 σ x τ := by
  refine x_run [some (.ref 1), some (.int a1)] (by decide +kernel) rfl (Nat.le_of_ble_eq_true rfl) ?_
  refine x_aload_n (pc := 0) 0 dX6_put_0 rfl rfl ?_
  refine x_getI (pc := 1) dX6_put_1 fX6_15 rfl rfl ?_
  refine x_sipush (pc := 4) (130 : Int32) dX6_put_4 (by decide +kernel) ?_
  refine x_icmp_ge (pc := 7) 30 dX6_put_7 (by decide) (fun c1 => ?_) (fun c1 => ?_)
  · replace h := h.1 c1
    refine x_aload_n (pc := 30) 0 dX6_put_30 rfl rfl ?_
    refine x_getI (pc := 31) dX6_put_31 fX6_15 rfl rfl ?_
    exact x_ireturn2 (pc := 34) dX6_put_34 rfl h.1 h.2
  · replace h := h.2 c1
    refine x_aload_n (pc := 10) 0 dX6_put_10 rfl rfl ?_
    refine x_getR (pc := 11) dX6_put_11 fX6_9 rfl rfl ?_
    refine x_aload_n (pc := 14) 0 dX6_put_14 rfl rfl ?_
    refine x_getI (pc := 15) dX6_put_15 fX6_15 rfl rfl ?_
    refine x_iload_n (pc := 18) 1 dX6_put_18 rfl rfl ?_
    obtain ⟨g2, h⟩ := h
    refine x_iastore (pc := 19) (n := 130) dX6_put_19 rfl g2 ?_
    refine x_aload_n (pc := 20) 0 dX6_put_20 rfl rfl ?_
    refine x_dup (pc := 21) dX6_put_21 rfl ?_
    refine x_getI (pc := 22) dX6_put_22 fX6_15 rfl rfl ?_
    refine x_iconst (pc := 25) (1 : Int32) dX6_put_25 (by decide +kernel) ?_
    refine x_iadd (pc := 26) dX6_put_26 ?_
    refine x_putI (pc := 27) dX6_put_27 pX6_15 rfl rfl ?_
    refine x_aload_n (pc := 30) 0 dX6_put_30 rfl rfl ?_
    refine x_getI (pc := 31) dX6_put_31 fX6_15 rfl rfl ?_
    exact x_ireturn2 (pc := 34) dX6_put_34 rfl h.1 h.2
theorem dX7_clear_0 : decode cX7_clear 0 = .ok (.aload_n 0, 1) := by decide +kernel
theorem dX7_clear_1 : decode cX7_clear 1 = .ok (.iconst 0, 1) := by decide +kernel
theorem dX7_clear_2 : decode cX7_clear 2 = .ok (.putfield 40, 3) := by decide +kernel
theorem dX7_clear_5 : decode cX7_clear 5 = .ok (.aload_n 0, 1) := by decide +kernel
theorem dX7_clear_6 : decode cX7_clear 6 = .ok (.iconst 0, 1) := by decide +kernel
theorem dX7_clear_7 : decode cX7_clear 7 = .ok (.putfield 33, 3) := by decide +kernel
theorem dX7_clear_10 : decode cX7_clear 10 = .ok (.aload_n 0, 1) := by decide +kernel
theorem dX7_clear_11 : decode cX7_clear 11 = .ok (.iconst 0, 1) := by decide +kernel
theorem dX7_clear_12 : decode cX7_clear 12 = .ok (.putfield 37, 3) := by decide +kernel
theorem dX7_clear_15 : decode cX7_clear 15 = .ok (.aload_n 0, 1) := by decide +kernel
theorem dX7_clear_16 : decode cX7_clear 16 = .ok (.iconst 0, 1) := by decide +kernel
theorem dX7_clear_17 : decode cX7_clear 17 = .ok (.putfield 43, 3) := by decide +kernel
theorem dX7_clear_20 : decode cX7_clear 20 = .ok (.aload_n 0, 1) := by decide +kernel
theorem dX7_clear_21 : decode cX7_clear 21 = .ok (.getfield 30, 3) := by decide +kernel
theorem dX7_clear_24 : decode cX7_clear 24 = .ok (.iconst 0, 1) := by decide +kernel
theorem dX7_clear_25 : decode cX7_clear 25 = .ok (.invokestatic 46, 3) := by decide +kernel
theorem dX7_clear_28 : decode cX7_clear 28 = .ok (.return_, 1) := by decide +kernel
def R_X7_clear (v : Nat) (σ : kS) (τ : kS) : Prop := Run SX jX7_clear [(.ref v)] σ none τ
set_option maxRecDepth 20000 in
theorem t_X7_clear {v : Nat} {σ : kS} {τ : kS} (hv : k_vly v = true) (h : ∃ s1 : kS, R_J7_fill_53178 (v + 7) 5 (0 : Int32) (k_si (k_si (k_si (k_si σ v 0 (0 : Int32)) v 1 (0 : Int32)) v 2 (0 : Int32)) v 3 (0 : Int32)) s1 ∧ (τ = s1)) : R_X7_clear v σ τ := by
  refine x_run [some (.ref v)] (by decide +kernel) rfl (Nat.le_of_ble_eq_true rfl) ?_
  refine x_aload_n (pc := 0) 0 dX7_clear_0 rfl rfl ?_
  refine x_iconst (pc := 1) (0 : Int32) dX7_clear_1 (by decide +kernel) ?_
  refine x_putI (pc := 2) dX7_clear_2 pX7_40 (vl_is hv) (vl_i0 hv) ?_
  refine x_aload_n (pc := 5) 0 dX7_clear_5 rfl rfl ?_
  refine x_iconst (pc := 6) (0 : Int32) dX7_clear_6 (by decide +kernel) ?_
  refine x_putI (pc := 7) dX7_clear_7 pX7_33 (vl_is hv) (vl_i1 hv) ?_
  refine x_aload_n (pc := 10) 0 dX7_clear_10 rfl rfl ?_
  refine x_iconst (pc := 11) (0 : Int32) dX7_clear_11 (by decide +kernel) ?_
  refine x_putI (pc := 12) dX7_clear_12 pX7_37 (vl_is hv) (vl_i2 hv) ?_
  refine x_aload_n (pc := 15) 0 dX7_clear_15 rfl rfl ?_
  refine x_iconst (pc := 16) (0 : Int32) dX7_clear_16 (by decide +kernel) ?_
  refine x_putI (pc := 17) dX7_clear_17 pX7_43 (vl_is hv) (vl_i3 hv) ?_
  refine x_aload_n (pc := 20) 0 dX7_clear_20 rfl rfl ?_
  refine x_getR (pc := 21) dX7_clear_21 fX7_30 (vl_is hv) (vl_r10 hv) ?_
  refine x_iconst (pc := 24) (0 : Int32) dX7_clear_24 (by decide +kernel) ?_
  obtain ⟨s1, hr, h⟩ := h
  refine x_callS (pc := 25) [(.ref (v + 7)), (.int (0 : Int32))] [] dX7_clear_25 ⟨⟨hJ7_fill_53178.1, hJ7_fill_53178.2.1, hJ7_fill_53178.2.2, by decide⟩, mX7_46, sJ7_fill_53178⟩ rfl rfl (Nat.le_of_ble_eq_true rfl) hr ?_
  exact x_return2 (pc := 28) dX7_clear_28 rfl h
theorem dX6_peek_0 : decode cX6_peek 0 = .ok (.aload_n 0, 1) := by decide +kernel
theorem dX6_peek_1 : decode cX6_peek 1 = .ok (.getfield 19, 3) := by decide +kernel
theorem dX6_peek_4 : decode cX6_peek 4 = .ok (.aload_n 0, 1) := by decide +kernel
theorem dX6_peek_5 : decode cX6_peek 5 = .ok (.getfield 15, 3) := by decide +kernel
theorem dX6_peek_8 : decode cX6_peek 8 = .ok (.if_icmp .ge 15, 3) := by decide +kernel
theorem dX6_peek_11 : decode cX6_peek 11 = .ok (.aload_n 0, 1) := by decide +kernel
theorem dX6_peek_12 : decode cX6_peek 12 = .ok (.getfield 9, 3) := by decide +kernel
theorem dX6_peek_15 : decode cX6_peek 15 = .ok (.aload_n 0, 1) := by decide +kernel
theorem dX6_peek_16 : decode cX6_peek 16 = .ok (.getfield 19, 3) := by decide +kernel
theorem dX6_peek_19 : decode cX6_peek 19 = .ok (.iaload, 1) := by decide +kernel
theorem dX6_peek_20 : decode cX6_peek 20 = .ok (.goto 4, 3) := by decide +kernel
theorem dX6_peek_23 : decode cX6_peek 23 = .ok (.iconst (-1), 1) := by decide +kernel
theorem dX6_peek_24 : decode cX6_peek 24 = .ok (.ireturn, 1) := by decide +kernel
def R_X6_peek  (σ : kS) (x : Int32) (τ : kS) : Prop := Run SX jX6_peek [(.ref 1)] σ (some (.int x)) τ
set_option maxRecDepth 20000 in
theorem t_X6_peek  {σ : kS} {x : Int32} {τ : kS}  (h : ((σ.1 1 1) ≤ (σ.1 1 2) → x = (-1 : Int32) ∧ τ = σ) ∧ (¬ (σ.1 1 1) ≤ (σ.1 1 2) → vp_in (σ.1 1 2) 130 ∧ (x = (σ.1 2 (σ.1 1 2).toNatClampNeg) ∧ τ = σ))) : R_X6_peek  σ x τ := by
  refine x_run [some (.ref 1)] (by decide +kernel) rfl (Nat.le_of_ble_eq_true rfl) ?_
  refine x_aload_n (pc := 0) 0 dX6_peek_0 rfl rfl ?_
  refine x_getI (pc := 1) dX6_peek_1 fX6_19 rfl rfl ?_
  refine x_aload_n (pc := 4) 0 dX6_peek_4 rfl rfl ?_
  refine x_getI (pc := 5) dX6_peek_5 fX6_15 rfl rfl ?_
  refine x_icmp_ge (pc := 8) 23 dX6_peek_8 (by decide) (fun c1 => ?_) (fun c1 => ?_)
  · replace h := h.1 c1
    refine x_iconst (pc := 23) (-1 : Int32) dX6_peek_23 (by decide +kernel) ?_
    exact x_ireturn2 (pc := 24) dX6_peek_24 rfl h.1 h.2
  · replace h := h.2 c1
    refine x_aload_n (pc := 11) 0 dX6_peek_11 rfl rfl ?_
    refine x_getR (pc := 12) dX6_peek_12 fX6_9 rfl rfl ?_
    refine x_aload_n (pc := 15) 0 dX6_peek_15 rfl rfl ?_
    refine x_getI (pc := 16) dX6_peek_16 fX6_19 rfl rfl ?_
    obtain ⟨g2, h⟩ := h
    refine x_iaload (pc := 19) (n := 130) dX6_peek_19 rfl g2 ?_
    refine x_goto (pc := 20) 24 dX6_peek_20 (by decide) ?_
    exact x_ireturn2 (pc := 24) dX6_peek_24 rfl h.1 h.2
theorem dX6_take_0 : decode cX6_take 0 = .ok (.aload_n 0, 1) := by decide +kernel
theorem dX6_take_1 : decode cX6_take 1 = .ok (.invokevirtual 41, 3) := by decide +kernel
theorem dX6_take_4 : decode cX6_take 4 = .ok (.iload_n 1, 1) := by decide +kernel
theorem dX6_take_5 : decode cX6_take 5 = .ok (.if_icmp .eq 5, 3) := by decide +kernel
theorem dX6_take_8 : decode cX6_take 8 = .ok (.iconst 0, 1) := by decide +kernel
theorem dX6_take_9 : decode cX6_take 9 = .ok (.ireturn, 1) := by decide +kernel
theorem dX6_take_10 : decode cX6_take 10 = .ok (.aload_n 0, 1) := by decide +kernel
theorem dX6_take_11 : decode cX6_take 11 = .ok (.dup, 1) := by decide +kernel
theorem dX6_take_12 : decode cX6_take 12 = .ok (.getfield 19, 3) := by decide +kernel
theorem dX6_take_15 : decode cX6_take 15 = .ok (.iconst 1, 1) := by decide +kernel
theorem dX6_take_16 : decode cX6_take 16 = .ok (.iadd, 1) := by decide +kernel
theorem dX6_take_17 : decode cX6_take 17 = .ok (.putfield 19, 3) := by decide +kernel
theorem dX6_take_20 : decode cX6_take 20 = .ok (.iconst 1, 1) := by decide +kernel
theorem dX6_take_21 : decode cX6_take 21 = .ok (.ireturn, 1) := by decide +kernel
def R_X6_take (a1 : Int32) (σ : kS) (x : Int32) (τ : kS) : Prop := Run SX jX6_take [(.ref 1), (.int a1)] σ (some (.int x)) τ
set_option maxRecDepth 20000 in
theorem t_X6_take {a1 : Int32} {σ : kS} {x : Int32} {τ : kS}  (h : ∃ (x2 : Int32) (s1 : kS), R_X6_peek  σ x2 s1 ∧ ((x2 = a1 → x = (1 : Int32) ∧ τ = (k_si s1 1 2 ((s1.1 1 2) + (1 : Int32)))) ∧ (¬ x2 = a1 → x = (0 : Int32) ∧ τ = s1))) : R_X6_take a1 σ x τ := by
  refine x_run [some (.ref 1), some (.int a1)] (by decide +kernel) rfl (Nat.le_of_ble_eq_true rfl) ?_
  refine x_aload_n (pc := 0) 0 dX6_take_0 rfl rfl ?_
  obtain ⟨x2, s1, hr, h⟩ := h
  refine x_callV (pc := 1) [] [] dX6_take_1 ⟨⟨hX6_peek.1, hX6_peek.2.1, hX6_peek.2.2, by decide⟩, mX6_41, vX6_peek.1, vX6_peek.2⟩ (ci := 6) rfl rfl rfl rfl (Nat.le_of_ble_eq_true rfl) hr ?_
  refine x_iload_n (pc := 4) 1 dX6_take_4 rfl rfl ?_
  refine x_icmp_eq (pc := 5) 10 dX6_take_5 (by decide) (fun c3 => ?_) (fun c3 => ?_)
  · replace h := h.1 c3
    refine x_aload_n (pc := 10) 0 dX6_take_10 rfl rfl ?_
    refine x_dup (pc := 11) dX6_take_11 rfl ?_
    refine x_getI (pc := 12) dX6_take_12 fX6_19 rfl rfl ?_
    refine x_iconst (pc := 15) (1 : Int32) dX6_take_15 (by decide +kernel) ?_
    refine x_iadd (pc := 16) dX6_take_16 ?_
    refine x_putI (pc := 17) dX6_take_17 pX6_19 rfl rfl ?_
    refine x_iconst (pc := 20) (1 : Int32) dX6_take_20 (by decide +kernel) ?_
    exact x_zreturn2 (pc := 21) dX6_take_21 rfl rfl h.1 h.2
  · replace h := h.2 c3
    refine x_iconst (pc := 8) (0 : Int32) dX6_take_8 (by decide +kernel) ?_
    exact x_zreturn2 (pc := 9) dX6_take_9 rfl rfl h.1 h.2
theorem dX6_peekPitch_0 : decode cX6_peekPitch 0 = .ok (.aload_n 0, 1) := by decide +kernel
theorem dX6_peekPitch_1 : decode cX6_peekPitch 1 = .ok (.invokevirtual 41, 3) := by decide +kernel
theorem dX6_peekPitch_4 : decode cX6_peekPitch 4 = .ok (.istore_n 1, 1) := by decide +kernel
theorem dX6_peekPitch_5 : decode cX6_peekPitch 5 = .ok (.iload_n 1, 1) := by decide +kernel
theorem dX6_peekPitch_6 : decode cX6_peekPitch 6 = .ok (.bipush 48, 2) := by decide +kernel
theorem dX6_peekPitch_8 : decode cX6_peekPitch 8 = .ok (.if_icmp .lt 14, 3) := by decide +kernel
theorem dX6_peekPitch_11 : decode cX6_peekPitch 11 = .ok (.iload_n 1, 1) := by decide +kernel
theorem dX6_peekPitch_12 : decode cX6_peekPitch 12 = .ok (.bipush 57, 2) := by decide +kernel
theorem dX6_peekPitch_14 : decode cX6_peekPitch 14 = .ok (.if_icmp .gt 8, 3) := by decide +kernel
theorem dX6_peekPitch_17 : decode cX6_peekPitch 17 = .ok (.iload_n 1, 1) := by decide +kernel
theorem dX6_peekPitch_18 : decode cX6_peekPitch 18 = .ok (.bipush 48, 2) := by decide +kernel
theorem dX6_peekPitch_20 : decode cX6_peekPitch 20 = .ok (.isub, 1) := by decide +kernel
theorem dX6_peekPitch_21 : decode cX6_peekPitch 21 = .ok (.ireturn, 1) := by decide +kernel
theorem dX6_peekPitch_22 : decode cX6_peekPitch 22 = .ok (.iload_n 1, 1) := by decide +kernel
theorem dX6_peekPitch_23 : decode cX6_peekPitch 23 = .ok (.bipush 97, 2) := by decide +kernel
theorem dX6_peekPitch_25 : decode cX6_peekPitch 25 = .ok (.if_icmp .eq 9, 3) := by decide +kernel
theorem dX6_peekPitch_28 : decode cX6_peekPitch 28 = .ok (.iload_n 1, 1) := by decide +kernel
theorem dX6_peekPitch_29 : decode cX6_peekPitch 29 = .ok (.bipush 98, 2) := by decide +kernel
theorem dX6_peekPitch_31 : decode cX6_peekPitch 31 = .ok (.if_icmp .ne 13, 3) := by decide +kernel
theorem dX6_peekPitch_34 : decode cX6_peekPitch 34 = .ok (.iload_n 1, 1) := by decide +kernel
theorem dX6_peekPitch_35 : decode cX6_peekPitch 35 = .ok (.bipush 97, 2) := by decide +kernel
theorem dX6_peekPitch_37 : decode cX6_peekPitch 37 = .ok (.isub, 1) := by decide +kernel
theorem dX6_peekPitch_38 : decode cX6_peekPitch 38 = .ok (.bipush 10, 2) := by decide +kernel
theorem dX6_peekPitch_40 : decode cX6_peekPitch 40 = .ok (.iadd, 1) := by decide +kernel
theorem dX6_peekPitch_41 : decode cX6_peekPitch 41 = .ok (.goto 4, 3) := by decide +kernel
theorem dX6_peekPitch_44 : decode cX6_peekPitch 44 = .ok (.iconst (-1), 1) := by decide +kernel
theorem dX6_peekPitch_45 : decode cX6_peekPitch 45 = .ok (.ireturn, 1) := by decide +kernel
def R_X6_peekPitch  (σ : kS) (x : Int32) (τ : kS) : Prop := Run SX jX6_peekPitch [(.ref 1)] σ (some (.int x)) τ
def E_X6_peekPitch_22 (l1 : Int32) (σ : kS) (x : Int32) (τ : kS) : Prop := Ex SX jX6_peekPitch 22 [none, some (.int l1)] [] σ (some (.int x)) τ
set_option maxRecDepth 20000 in
theorem t_X6_peekPitch  {σ : kS} {x : Int32} {τ : kS}  (h : ∃ (x2 : Int32) (s1 : kS), R_X6_peek  σ x2 s1 ∧ ((x2 < (48 : Int32) → E_X6_peekPitch_22 x2 s1 x τ) ∧ (¬ x2 < (48 : Int32) → ((57 : Int32) < x2 → E_X6_peekPitch_22 x2 s1 x τ) ∧ (¬ (57 : Int32) < x2 → x = (x2 - (48 : Int32)) ∧ τ = s1)))) : R_X6_peekPitch  σ x τ := by
  refine x_run [some (.ref 1), none] (by decide +kernel) rfl (Nat.le_of_ble_eq_true rfl) ?_
  refine x_aload_n (pc := 0) 0 dX6_peekPitch_0 rfl rfl ?_
  obtain ⟨x2, s1, hr, h⟩ := h
  refine x_callV (pc := 1) [] [] dX6_peekPitch_1 ⟨⟨hX6_peek.1, hX6_peek.2.1, hX6_peek.2.2, by decide⟩, mX6_41, vX6_peek.1, vX6_peek.2⟩ (ci := 6) rfl rfl rfl rfl (Nat.le_of_ble_eq_true rfl) hr ?_
  refine x_istore_n (pc := 4) 1 dX6_peekPitch_4 rfl (by decide) rfl ?_
  refine x_iload_n (pc := 5) 1 dX6_peekPitch_5 rfl rfl ?_
  refine x_bipush (pc := 6) (48 : Int32) dX6_peekPitch_6 (by decide +kernel) ?_
  refine x_icmp_lt (pc := 8) 22 dX6_peekPitch_8 (by decide) (fun c3 => ?_) (fun c3 => ?_)
  · replace h := h.1 c3
    exact x_mask [false, true] h
  · replace h := h.2 c3
    refine x_iload_n (pc := 11) 1 dX6_peekPitch_11 rfl rfl ?_
    refine x_bipush (pc := 12) (57 : Int32) dX6_peekPitch_12 (by decide +kernel) ?_
    refine x_icmp_gt (pc := 14) 22 dX6_peekPitch_14 (by decide) (fun c4 => ?_) (fun c4 => ?_)
    · replace h := h.1 c4
      exact x_mask [false, true] h
    · replace h := h.2 c4
      refine x_iload_n (pc := 17) 1 dX6_peekPitch_17 rfl rfl ?_
      refine x_bipush (pc := 18) (48 : Int32) dX6_peekPitch_18 (by decide +kernel) ?_
      refine x_isub (pc := 20) dX6_peekPitch_20 ?_
      exact x_ireturn2 (pc := 21) dX6_peekPitch_21 rfl h.1 h.2
set_option maxRecDepth 20000 in
theorem t_X6_peekPitch_22 {l1 : Int32} {σ : kS} {x : Int32} {τ : kS}  (h : (l1 = (97 : Int32) → x = ((l1 - (97 : Int32)) + (10 : Int32)) ∧ τ = σ) ∧ (¬ l1 = (97 : Int32) → (¬ l1 = (98 : Int32) → x = (-1 : Int32) ∧ τ = σ) ∧ (l1 = (98 : Int32) → x = ((l1 - (97 : Int32)) + (10 : Int32)) ∧ τ = σ))) : E_X6_peekPitch_22 l1 σ x τ := by
  unfold E_X6_peekPitch_22
  refine x_iload_n (pc := 22) 1 dX6_peekPitch_22 rfl rfl ?_
  refine x_bipush (pc := 23) (97 : Int32) dX6_peekPitch_23 (by decide +kernel) ?_
  refine x_icmp_eq (pc := 25) 34 dX6_peekPitch_25 (by decide) (fun c1 => ?_) (fun c1 => ?_)
  · replace h := h.1 c1
    refine x_iload_n (pc := 34) 1 dX6_peekPitch_34 rfl rfl ?_
    refine x_bipush (pc := 35) (97 : Int32) dX6_peekPitch_35 (by decide +kernel) ?_
    refine x_isub (pc := 37) dX6_peekPitch_37 ?_
    refine x_bipush (pc := 38) (10 : Int32) dX6_peekPitch_38 (by decide +kernel) ?_
    refine x_iadd (pc := 40) dX6_peekPitch_40 ?_
    refine x_goto (pc := 41) 45 dX6_peekPitch_41 (by decide) ?_
    exact x_ireturn2 (pc := 45) dX6_peekPitch_45 rfl h.1 h.2
  · replace h := h.2 c1
    refine x_iload_n (pc := 28) 1 dX6_peekPitch_28 rfl rfl ?_
    refine x_bipush (pc := 29) (98 : Int32) dX6_peekPitch_29 (by decide +kernel) ?_
    refine x_icmp_ne (pc := 31) 44 dX6_peekPitch_31 (by decide) (fun c2 => ?_) (fun c2 => ?_)
    · replace h := h.1 c2
      refine x_iconst (pc := 44) (-1 : Int32) dX6_peekPitch_44 (by decide +kernel) ?_
      exact x_ireturn2 (pc := 45) dX6_peekPitch_45 rfl h.1 h.2
    · replace h := h.2 c2
      refine x_iload_n (pc := 34) 1 dX6_peekPitch_34 rfl rfl ?_
      refine x_bipush (pc := 35) (97 : Int32) dX6_peekPitch_35 (by decide +kernel) ?_
      refine x_isub (pc := 37) dX6_peekPitch_37 ?_
      refine x_bipush (pc := 38) (10 : Int32) dX6_peekPitch_38 (by decide +kernel) ?_
      refine x_iadd (pc := 40) dX6_peekPitch_40 ?_
      refine x_goto (pc := 41) 45 dX6_peekPitch_41 (by decide) ?_
      exact x_ireturn2 (pc := 45) dX6_peekPitch_45 rfl h.1 h.2
theorem dX6_takeRising_0 : decode cX6_takeRising 0 = .ok (.iconst 0, 1) := by decide +kernel
theorem dX6_takeRising_1 : decode cX6_takeRising 1 = .ok (.istore_n 2, 1) := by decide +kernel
theorem dX6_takeRising_2 : decode cX6_takeRising 2 = .ok (.iconst (-1), 1) := by decide +kernel
theorem dX6_takeRising_3 : decode cX6_takeRising 3 = .ok (.istore_n 3, 1) := by decide +kernel
theorem dX6_takeRising_4 : decode cX6_takeRising 4 = .ok (.iconst 0, 1) := by decide +kernel
theorem dX6_takeRising_5 : decode cX6_takeRising 5 = .ok (.istore 4, 2) := by decide +kernel
theorem dX6_takeRising_7 : decode cX6_takeRising 7 = .ok (.iload 4, 2) := by decide +kernel
theorem dX6_takeRising_9 : decode cX6_takeRising 9 = .ok (.iload_n 1, 1) := by decide +kernel
theorem dX6_takeRising_10 : decode cX6_takeRising 10 = .ok (.if_icmp .ge 38, 3) := by decide +kernel
theorem dX6_takeRising_13 : decode cX6_takeRising 13 = .ok (.aload_n 0, 1) := by decide +kernel
theorem dX6_takeRising_14 : decode cX6_takeRising 14 = .ok (.invokevirtual 45, 3) := by decide +kernel
theorem dX6_takeRising_17 : decode cX6_takeRising 17 = .ok (.iload_n 3, 1) := by decide +kernel
theorem dX6_takeRising_18 : decode cX6_takeRising 18 = .ok (.if_icmp .le 30, 3) := by decide +kernel
theorem dX6_takeRising_21 : decode cX6_takeRising 21 = .ok (.aload_n 0, 1) := by decide +kernel
theorem dX6_takeRising_22 : decode cX6_takeRising 22 = .ok (.invokevirtual 45, 3) := by decide +kernel
theorem dX6_takeRising_25 : decode cX6_takeRising 25 = .ok (.istore_n 3, 1) := by decide +kernel
theorem dX6_takeRising_26 : decode cX6_takeRising 26 = .ok (.iload_n 2, 1) := by decide +kernel
theorem dX6_takeRising_27 : decode cX6_takeRising 27 = .ok (.iconst 1, 1) := by decide +kernel
theorem dX6_takeRising_28 : decode cX6_takeRising 28 = .ok (.iload_n 3, 1) := by decide +kernel
theorem dX6_takeRising_29 : decode cX6_takeRising 29 = .ok (.ishl, 1) := by decide +kernel
theorem dX6_takeRising_30 : decode cX6_takeRising 30 = .ok (.ior, 1) := by decide +kernel
theorem dX6_takeRising_31 : decode cX6_takeRising 31 = .ok (.istore_n 2, 1) := by decide +kernel
theorem dX6_takeRising_32 : decode cX6_takeRising 32 = .ok (.aload_n 0, 1) := by decide +kernel
theorem dX6_takeRising_33 : decode cX6_takeRising 33 = .ok (.dup, 1) := by decide +kernel
theorem dX6_takeRising_34 : decode cX6_takeRising 34 = .ok (.getfield 19, 3) := by decide +kernel
theorem dX6_takeRising_37 : decode cX6_takeRising 37 = .ok (.iconst 1, 1) := by decide +kernel
theorem dX6_takeRising_38 : decode cX6_takeRising 38 = .ok (.iadd, 1) := by decide +kernel
theorem dX6_takeRising_39 : decode cX6_takeRising 39 = .ok (.putfield 19, 3) := by decide +kernel
theorem dX6_takeRising_42 : decode cX6_takeRising 42 = .ok (.iinc 4 1, 3) := by decide +kernel
theorem dX6_takeRising_45 : decode cX6_takeRising 45 = .ok (.goto (-38), 3) := by decide +kernel
theorem dX6_takeRising_48 : decode cX6_takeRising 48 = .ok (.iload_n 2, 1) := by decide +kernel
theorem dX6_takeRising_49 : decode cX6_takeRising 49 = .ok (.ireturn, 1) := by decide +kernel
def R_X6_takeRising (a1 : Int32) (σ : kS) (x : Int32) (τ : kS) : Prop := Run SX jX6_takeRising [(.ref 1), (.int a1)] σ (some (.int x)) τ
def E_X6_takeRising_7 (l1 : Int32) (l2 : Int32) (l3 : Int32) (l4 : Int32) (σ : kS) (x : Int32) (τ : kS) : Prop := Ex SX jX6_takeRising 7 [some (.ref 1), some (.int l1), some (.int l2), some (.int l3), some (.int l4)] [] σ (some (.int x)) τ
set_option maxRecDepth 20000 in
theorem t_X6_takeRising {a1 : Int32} {σ : kS} {x : Int32} {τ : kS}  (h : E_X6_takeRising_7 a1 (0 : Int32) (-1 : Int32) (0 : Int32) σ x τ) : R_X6_takeRising a1 σ x τ := by
  refine x_run [some (.ref 1), some (.int a1), none, none, none] (by decide +kernel) rfl (Nat.le_of_ble_eq_true rfl) ?_
  refine x_iconst (pc := 0) (0 : Int32) dX6_takeRising_0 (by decide +kernel) ?_
  refine x_istore_n (pc := 1) 2 dX6_takeRising_1 rfl (by decide) rfl ?_
  refine x_iconst (pc := 2) (-1 : Int32) dX6_takeRising_2 (by decide +kernel) ?_
  refine x_istore_n (pc := 3) 3 dX6_takeRising_3 rfl (by decide) rfl ?_
  refine x_iconst (pc := 4) (0 : Int32) dX6_takeRising_4 (by decide +kernel) ?_
  refine x_istore (pc := 5) dX6_takeRising_5 (by decide) rfl ?_
  exact h
set_option maxRecDepth 20000 in
theorem t_X6_takeRising_7 {l1 : Int32} {l2 : Int32} {l3 : Int32} {l4 : Int32} {σ : kS} {x : Int32} {τ : kS}  (h : (l1 ≤ l4 → x = l2 ∧ τ = σ) ∧ (¬ l1 ≤ l4 → ∃ (x3 : Int32) (s2 : kS), R_X6_peekPitch  σ x3 s2 ∧ ((x3 ≤ l3 → x = l2 ∧ τ = s2) ∧ (¬ x3 ≤ l3 → ∃ (x6 : Int32) (s5 : kS), R_X6_peekPitch  s2 x6 s5 ∧ (E_X6_takeRising_7 l1 (l2 ||| ((1 : Int32) <<< (x6 &&& 31))) x6 (l4 + (1 : Int32)) (k_si s5 1 2 ((s5.1 1 2) + (1 : Int32))) x τ))))) : E_X6_takeRising_7 l1 l2 l3 l4 σ x τ := by
  unfold E_X6_takeRising_7
  refine x_iload (pc := 7) dX6_takeRising_7 rfl ?_
  refine x_iload_n (pc := 9) 1 dX6_takeRising_9 rfl rfl ?_
  refine x_icmp_ge (pc := 10) 48 dX6_takeRising_10 (by decide) (fun c1 => ?_) (fun c1 => ?_)
  · replace h := h.1 c1
    refine x_iload_n (pc := 48) 2 dX6_takeRising_48 rfl rfl ?_
    exact x_ireturn2 (pc := 49) dX6_takeRising_49 rfl h.1 h.2
  · replace h := h.2 c1
    refine x_aload_n (pc := 13) 0 dX6_takeRising_13 rfl rfl ?_
    obtain ⟨x3, s2, hr, h⟩ := h
    refine x_callV (pc := 14) [] [] dX6_takeRising_14 ⟨⟨hX6_peekPitch.1, hX6_peekPitch.2.1, hX6_peekPitch.2.2, by decide⟩, mX6_45, vX6_peekPitch.1, vX6_peekPitch.2⟩ (ci := 6) rfl rfl rfl rfl (Nat.le_of_ble_eq_true rfl) hr ?_
    refine x_iload_n (pc := 17) 3 dX6_takeRising_17 rfl rfl ?_
    refine x_icmp_le (pc := 18) 48 dX6_takeRising_18 (by decide) (fun c4 => ?_) (fun c4 => ?_)
    · replace h := h.1 c4
      refine x_iload_n (pc := 48) 2 dX6_takeRising_48 rfl rfl ?_
      exact x_ireturn2 (pc := 49) dX6_takeRising_49 rfl h.1 h.2
    · replace h := h.2 c4
      refine x_aload_n (pc := 21) 0 dX6_takeRising_21 rfl rfl ?_
      obtain ⟨x6, s5, hr, h⟩ := h
      refine x_callV (pc := 22) [] [] dX6_takeRising_22 ⟨⟨hX6_peekPitch.1, hX6_peekPitch.2.1, hX6_peekPitch.2.2, by decide⟩, mX6_45, vX6_peekPitch.1, vX6_peekPitch.2⟩ (ci := 6) rfl rfl rfl rfl (Nat.le_of_ble_eq_true rfl) hr ?_
      refine x_istore_n (pc := 25) 3 dX6_takeRising_25 rfl (by decide) rfl ?_
      refine x_iload_n (pc := 26) 2 dX6_takeRising_26 rfl rfl ?_
      refine x_iconst (pc := 27) (1 : Int32) dX6_takeRising_27 (by decide +kernel) ?_
      refine x_iload_n (pc := 28) 3 dX6_takeRising_28 rfl rfl ?_
      refine x_ishl (pc := 29) dX6_takeRising_29 ?_
      refine x_ior (pc := 30) dX6_takeRising_30 ?_
      refine x_istore_n (pc := 31) 2 dX6_takeRising_31 rfl (by decide) rfl ?_
      refine x_aload_n (pc := 32) 0 dX6_takeRising_32 rfl rfl ?_
      refine x_dup (pc := 33) dX6_takeRising_33 rfl ?_
      refine x_getI (pc := 34) dX6_takeRising_34 fX6_19 rfl rfl ?_
      refine x_iconst (pc := 37) (1 : Int32) dX6_takeRising_37 (by decide +kernel) ?_
      refine x_iadd (pc := 38) dX6_takeRising_38 ?_
      refine x_putI (pc := 39) dX6_takeRising_39 pX6_19 rfl rfl ?_
      refine x_iinc (pc := 42) (1 : Int32) dX6_takeRising_42 (by decide) rfl rfl (by decide +kernel) ?_
      refine x_goto (pc := 45) 7 dX6_takeRising_45 (by decide) ?_
      exact h
theorem dX6_readShape_0 : decode cX6_readShape 0 = .ok (.aload_n 0, 1) := by decide +kernel
theorem dX6_readShape_1 : decode cX6_readShape 1 = .ok (.invokevirtual 45, 3) := by decide +kernel
theorem dX6_readShape_4 : decode cX6_readShape 4 = .ok (.ifCond .eq 5, 3) := by decide +kernel
theorem dX6_readShape_7 : decode cX6_readShape 7 = .ok (.iconst 0, 1) := by decide +kernel
theorem dX6_readShape_8 : decode cX6_readShape 8 = .ok (.ireturn, 1) := by decide +kernel
theorem dX6_readShape_9 : decode cX6_readShape 9 = .ok (.aload_n 1, 1) := by decide +kernel
theorem dX6_readShape_10 : decode cX6_readShape 10 = .ok (.getfield 55, 3) := by decide +kernel
theorem dX6_readShape_13 : decode cX6_readShape 13 = .ok (.iload_n 2, 1) := by decide +kernel
theorem dX6_readShape_14 : decode cX6_readShape 14 = .ok (.aload_n 0, 1) := by decide +kernel
theorem dX6_readShape_15 : decode cX6_readShape 15 = .ok (.iconst 5, 1) := by decide +kernel
theorem dX6_readShape_16 : decode cX6_readShape 16 = .ok (.invokevirtual 60, 3) := by decide +kernel
theorem dX6_readShape_19 : decode cX6_readShape 19 = .ok (.iastore, 1) := by decide +kernel
theorem dX6_readShape_20 : decode cX6_readShape 20 = .ok (.aload_n 1, 1) := by decide +kernel
theorem dX6_readShape_21 : decode cX6_readShape 21 = .ok (.getfield 55, 3) := by decide +kernel
theorem dX6_readShape_24 : decode cX6_readShape 24 = .ok (.iload_n 2, 1) := by decide +kernel
theorem dX6_readShape_25 : decode cX6_readShape 25 = .ok (.iaload, 1) := by decide +kernel
theorem dX6_readShape_26 : decode cX6_readShape 26 = .ok (.invokestatic 64, 3) := by decide +kernel
theorem dX6_readShape_29 : decode cX6_readShape 29 = .ok (.iconst 2, 1) := by decide +kernel
theorem dX6_readShape_30 : decode cX6_readShape 30 = .ok (.if_icmp .lt 7, 3) := by decide +kernel
theorem dX6_readShape_33 : decode cX6_readShape 33 = .ok (.iconst 1, 1) := by decide +kernel
theorem dX6_readShape_34 : decode cX6_readShape 34 = .ok (.goto 4, 3) := by decide +kernel
theorem dX6_readShape_37 : decode cX6_readShape 37 = .ok (.iconst 0, 1) := by decide +kernel
theorem dX6_readShape_38 : decode cX6_readShape 38 = .ok (.ireturn, 1) := by decide +kernel
def R_X6_readShape (a2 : Int32) (σ : kS) (x : Int32) (τ : kS) : Prop := Run SX jX6_readShape [(.ref 1), (.ref 11), (.int a2)] σ (some (.int x)) τ
set_option maxRecDepth 20000 in
theorem t_X6_readShape {a2 : Int32} {σ : kS} {x : Int32} {τ : kS}  (h : ∃ (x2 : Int32) (s1 : kS), R_X6_peekPitch  σ x2 s1 ∧ ((x2 = 0 → ∃ (x5 : Int32) (s4 : kS), R_X6_takeRising (5 : Int32) s1 x5 s4 ∧ (vp_in a2 4 ∧ (vp_in a2 4 ∧ (∃ (x9 : Int32) (s8 : kS), R_J6_bitCount_0f7a4 ((k_si s4 12 a2.toNatClampNeg x5).1 12 a2.toNatClampNeg) (k_si s4 12 a2.toNatClampNeg x5) x9 s8 ∧ ((x9 < (2 : Int32) → x = (0 : Int32) ∧ τ = s8) ∧ (¬ x9 < (2 : Int32) → x = (1 : Int32) ∧ τ = s8)))))) ∧ (¬ x2 = 0 → x = (0 : Int32) ∧ τ = s1))) : R_X6_readShape a2 σ x τ := by
  refine x_run [some (.ref 1), some (.ref 11), some (.int a2)] (by decide +kernel) rfl (Nat.le_of_ble_eq_true rfl) ?_
  refine x_aload_n (pc := 0) 0 dX6_readShape_0 rfl rfl ?_
  obtain ⟨x2, s1, hr, h⟩ := h
  refine x_callV (pc := 1) [] [] dX6_readShape_1 ⟨⟨hX6_peekPitch.1, hX6_peekPitch.2.1, hX6_peekPitch.2.2, by decide⟩, mX6_45, vX6_peekPitch.1, vX6_peekPitch.2⟩ (ci := 6) rfl rfl rfl rfl (Nat.le_of_ble_eq_true rfl) hr ?_
  refine x_if_eq (pc := 4) 9 dX6_readShape_4 (by decide) (fun c3 => ?_) (fun c3 => ?_)
  · replace h := h.1 c3
    refine x_aload_n (pc := 9) 1 dX6_readShape_9 rfl rfl ?_
    refine x_getR (pc := 10) dX6_readShape_10 fX6_55 rfl rfl ?_
    refine x_iload_n (pc := 13) 2 dX6_readShape_13 rfl rfl ?_
    refine x_aload_n (pc := 14) 0 dX6_readShape_14 rfl rfl ?_
    refine x_iconst (pc := 15) (5 : Int32) dX6_readShape_15 (by decide +kernel) ?_
    obtain ⟨x5, s4, hr, h⟩ := h
    refine x_callV (pc := 16) [(.int (5 : Int32))] [(.int a2), (.ref 12)] dX6_readShape_16 ⟨⟨hX6_takeRising.1, hX6_takeRising.2.1, hX6_takeRising.2.2, by decide⟩, mX6_60, vX6_takeRising.1, vX6_takeRising.2⟩ (ci := 6) rfl rfl rfl rfl (Nat.le_of_ble_eq_true rfl) hr ?_
    obtain ⟨g6, h⟩ := h
    refine x_iastore (pc := 19) (n := 4) dX6_readShape_19 rfl g6 ?_
    refine x_aload_n (pc := 20) 1 dX6_readShape_20 rfl rfl ?_
    refine x_getR (pc := 21) dX6_readShape_21 fX6_55 rfl rfl ?_
    refine x_iload_n (pc := 24) 2 dX6_readShape_24 rfl rfl ?_
    obtain ⟨g7, h⟩ := h
    refine x_iaload (pc := 25) (n := 4) dX6_readShape_25 rfl g7 ?_
    obtain ⟨x9, s8, hr, h⟩ := h
    refine x_callS (pc := 26) [(.int ((k_si s4 12 a2.toNatClampNeg x5).1 12 a2.toNatClampNeg))] [] dX6_readShape_26 ⟨⟨hJ6_bitCount_0f7a4.1, hJ6_bitCount_0f7a4.2.1, hJ6_bitCount_0f7a4.2.2, by decide⟩, mX6_64, sJ6_bitCount_0f7a4⟩ rfl rfl (Nat.le_of_ble_eq_true rfl) hr ?_
    refine x_iconst (pc := 29) (2 : Int32) dX6_readShape_29 (by decide +kernel) ?_
    refine x_icmp_lt (pc := 30) 37 dX6_readShape_30 (by decide) (fun c10 => ?_) (fun c10 => ?_)
    · replace h := h.1 c10
      refine x_iconst (pc := 37) (0 : Int32) dX6_readShape_37 (by decide +kernel) ?_
      exact x_zreturn2 (pc := 38) dX6_readShape_38 rfl rfl h.1 h.2
    · replace h := h.2 c10
      refine x_iconst (pc := 33) (1 : Int32) dX6_readShape_33 (by decide +kernel) ?_
      refine x_goto (pc := 34) 38 dX6_readShape_34 (by decide) ?_
      exact x_zreturn2 (pc := 38) dX6_readShape_38 rfl rfl h.1 h.2
  · replace h := h.2 c3
    refine x_iconst (pc := 7) (0 : Int32) dX6_readShape_7 (by decide +kernel) ?_
    exact x_zreturn2 (pc := 8) dX6_readShape_8 rfl rfl h.1 h.2
theorem dX6_readShapes_0 : decode cX6_readShapes 0 = .ok (.iconst 0, 1) := by decide +kernel
theorem dX6_readShapes_1 : decode cX6_readShapes 1 = .ok (.istore_n 2, 1) := by decide +kernel
theorem dX6_readShapes_2 : decode cX6_readShapes 2 = .ok (.iload_n 2, 1) := by decide +kernel
theorem dX6_readShapes_3 : decode cX6_readShapes 3 = .ok (.iconst 4, 1) := by decide +kernel
theorem dX6_readShapes_4 : decode cX6_readShapes 4 = .ok (.if_icmp .ge 42, 3) := by decide +kernel
theorem dX6_readShapes_7 : decode cX6_readShapes 7 = .ok (.iload_n 2, 1) := by decide +kernel
theorem dX6_readShapes_8 : decode cX6_readShapes 8 = .ok (.ifCond .le 14, 3) := by decide +kernel
theorem dX6_readShapes_11 : decode cX6_readShapes 11 = .ok (.aload_n 0, 1) := by decide +kernel
theorem dX6_readShapes_12 : decode cX6_readShapes 12 = .ok (.bipush 44, 2) := by decide +kernel
theorem dX6_readShapes_14 : decode cX6_readShapes 14 = .ok (.invokevirtual 27, 3) := by decide +kernel
theorem dX6_readShapes_17 : decode cX6_readShapes 17 = .ok (.ifCond .ne 5, 3) := by decide +kernel
theorem dX6_readShapes_20 : decode cX6_readShapes 20 = .ok (.iconst 1, 1) := by decide +kernel
theorem dX6_readShapes_21 : decode cX6_readShapes 21 = .ok (.ireturn, 1) := by decide +kernel
theorem dX6_readShapes_22 : decode cX6_readShapes 22 = .ok (.aload_n 0, 1) := by decide +kernel
theorem dX6_readShapes_23 : decode cX6_readShapes 23 = .ok (.aload_n 1, 1) := by decide +kernel
theorem dX6_readShapes_24 : decode cX6_readShapes 24 = .ok (.iload_n 2, 1) := by decide +kernel
theorem dX6_readShapes_25 : decode cX6_readShapes 25 = .ok (.invokevirtual 48, 3) := by decide +kernel
theorem dX6_readShapes_28 : decode cX6_readShapes 28 = .ok (.ifCond .ne 5, 3) := by decide +kernel
theorem dX6_readShapes_31 : decode cX6_readShapes 31 = .ok (.iconst 0, 1) := by decide +kernel
theorem dX6_readShapes_32 : decode cX6_readShapes 32 = .ok (.ireturn, 1) := by decide +kernel
theorem dX6_readShapes_33 : decode cX6_readShapes 33 = .ok (.aload_n 1, 1) := by decide +kernel
theorem dX6_readShapes_34 : decode cX6_readShapes 34 = .ok (.iload_n 2, 1) := by decide +kernel
theorem dX6_readShapes_35 : decode cX6_readShapes 35 = .ok (.iconst 1, 1) := by decide +kernel
theorem dX6_readShapes_36 : decode cX6_readShapes 36 = .ok (.iadd, 1) := by decide +kernel
theorem dX6_readShapes_37 : decode cX6_readShapes 37 = .ok (.putfield 52, 3) := by decide +kernel
theorem dX6_readShapes_40 : decode cX6_readShapes 40 = .ok (.iinc 2 1, 3) := by decide +kernel
theorem dX6_readShapes_43 : decode cX6_readShapes 43 = .ok (.goto (-41), 3) := by decide +kernel
theorem dX6_readShapes_46 : decode cX6_readShapes 46 = .ok (.iconst 1, 1) := by decide +kernel
theorem dX6_readShapes_47 : decode cX6_readShapes 47 = .ok (.ireturn, 1) := by decide +kernel
def R_X6_readShapes  (σ : kS) (x : Int32) (τ : kS) : Prop := Run SX jX6_readShapes [(.ref 1), (.ref 11)] σ (some (.int x)) τ
def E_X6_readShapes_2 (l2 : Int32) (σ : kS) (x : Int32) (τ : kS) : Prop := Ex SX jX6_readShapes 2 [some (.ref 1), some (.ref 11), some (.int l2)] [] σ (some (.int x)) τ
def E_X6_readShapes_22 (l2 : Int32) (σ : kS) (x : Int32) (τ : kS) : Prop := Ex SX jX6_readShapes 22 [some (.ref 1), some (.ref 11), some (.int l2)] [] σ (some (.int x)) τ
set_option maxRecDepth 20000 in
theorem t_X6_readShapes  {σ : kS} {x : Int32} {τ : kS}  (h : E_X6_readShapes_2 (0 : Int32) σ x τ) : R_X6_readShapes  σ x τ := by
  refine x_run [some (.ref 1), some (.ref 11), none] (by decide +kernel) rfl (Nat.le_of_ble_eq_true rfl) ?_
  refine x_iconst (pc := 0) (0 : Int32) dX6_readShapes_0 (by decide +kernel) ?_
  refine x_istore_n (pc := 1) 2 dX6_readShapes_1 rfl (by decide) rfl ?_
  exact h
set_option maxRecDepth 20000 in
theorem t_X6_readShapes_2 {l2 : Int32} {σ : kS} {x : Int32} {τ : kS}  (h : ((4 : Int32) ≤ l2 → x = (1 : Int32) ∧ τ = σ) ∧ (¬ (4 : Int32) ≤ l2 → (l2 ≤ 0 → E_X6_readShapes_22 l2 σ x τ) ∧ (¬ l2 ≤ 0 → ∃ (x4 : Int32) (s3 : kS), R_X6_take (44 : Int32) σ x4 s3 ∧ ((¬ x4 = 0 → E_X6_readShapes_22 l2 s3 x τ) ∧ (x4 = 0 → x = (1 : Int32) ∧ τ = s3))))) : E_X6_readShapes_2 l2 σ x τ := by
  unfold E_X6_readShapes_2
  refine x_iload_n (pc := 2) 2 dX6_readShapes_2 rfl rfl ?_
  refine x_iconst (pc := 3) (4 : Int32) dX6_readShapes_3 (by decide +kernel) ?_
  refine x_icmp_ge (pc := 4) 46 dX6_readShapes_4 (by decide) (fun c1 => ?_) (fun c1 => ?_)
  · replace h := h.1 c1
    refine x_iconst (pc := 46) (1 : Int32) dX6_readShapes_46 (by decide +kernel) ?_
    exact x_zreturn2 (pc := 47) dX6_readShapes_47 rfl rfl h.1 h.2
  · replace h := h.2 c1
    refine x_iload_n (pc := 7) 2 dX6_readShapes_7 rfl rfl ?_
    refine x_if_le (pc := 8) 22 dX6_readShapes_8 (by decide) (fun c2 => ?_) (fun c2 => ?_)
    · replace h := h.1 c2
      exact h
    · replace h := h.2 c2
      refine x_aload_n (pc := 11) 0 dX6_readShapes_11 rfl rfl ?_
      refine x_bipush (pc := 12) (44 : Int32) dX6_readShapes_12 (by decide +kernel) ?_
      obtain ⟨x4, s3, hr, h⟩ := h
      refine x_callV (pc := 14) [(.int (44 : Int32))] [] dX6_readShapes_14 ⟨⟨hX6_take.1, hX6_take.2.1, hX6_take.2.2, by decide⟩, mX6_27, vX6_take.1, vX6_take.2⟩ (ci := 6) rfl rfl rfl rfl (Nat.le_of_ble_eq_true rfl) hr ?_
      refine x_if_ne (pc := 17) 22 dX6_readShapes_17 (by decide) (fun c5 => ?_) (fun c5 => ?_)
      · replace h := h.1 c5
        exact h
      · replace h := h.2 c5
        refine x_iconst (pc := 20) (1 : Int32) dX6_readShapes_20 (by decide +kernel) ?_
        exact x_zreturn2 (pc := 21) dX6_readShapes_21 rfl rfl h.1 h.2
set_option maxRecDepth 20000 in
theorem t_X6_readShapes_22 {l2 : Int32} {σ : kS} {x : Int32} {τ : kS}  (h : ∃ (x2 : Int32) (s1 : kS), R_X6_readShape l2 σ x2 s1 ∧ ((¬ x2 = 0 → E_X6_readShapes_2 (l2 + (1 : Int32)) (k_si s1 11 0 (l2 + (1 : Int32))) x τ) ∧ (x2 = 0 → x = (0 : Int32) ∧ τ = s1))) : E_X6_readShapes_22 l2 σ x τ := by
  unfold E_X6_readShapes_22
  refine x_aload_n (pc := 22) 0 dX6_readShapes_22 rfl rfl ?_
  refine x_aload_n (pc := 23) 1 dX6_readShapes_23 rfl rfl ?_
  refine x_iload_n (pc := 24) 2 dX6_readShapes_24 rfl rfl ?_
  obtain ⟨x2, s1, hr, h⟩ := h
  refine x_callV (pc := 25) [(.ref 11), (.int l2)] [] dX6_readShapes_25 ⟨⟨hX6_readShape.1, hX6_readShape.2.1, hX6_readShape.2.2, by decide⟩, mX6_48, vX6_readShape.1, vX6_readShape.2⟩ (ci := 6) rfl rfl rfl rfl (Nat.le_of_ble_eq_true rfl) hr ?_
  refine x_if_ne (pc := 28) 33 dX6_readShapes_28 (by decide) (fun c3 => ?_) (fun c3 => ?_)
  · replace h := h.1 c3
    refine x_aload_n (pc := 33) 1 dX6_readShapes_33 rfl rfl ?_
    refine x_iload_n (pc := 34) 2 dX6_readShapes_34 rfl rfl ?_
    refine x_iconst (pc := 35) (1 : Int32) dX6_readShapes_35 (by decide +kernel) ?_
    refine x_iadd (pc := 36) dX6_readShapes_36 ?_
    refine x_putI (pc := 37) dX6_readShapes_37 pX6_52 rfl rfl ?_
    refine x_iinc (pc := 40) (1 : Int32) dX6_readShapes_40 (by decide) rfl rfl (by decide +kernel) ?_
    refine x_goto (pc := 43) 2 dX6_readShapes_43 (by decide) ?_
    exact h
  · replace h := h.2 c3
    refine x_iconst (pc := 31) (0 : Int32) dX6_readShapes_31 (by decide +kernel) ?_
    exact x_zreturn2 (pc := 32) dX6_readShapes_32 rfl rfl h.1 h.2
theorem dX6_readFields_0 : decode cX6_readFields 0 = .ok (.iconst 0, 1) := by decide +kernel
theorem dX6_readFields_1 : decode cX6_readFields 1 = .ok (.istore_n 2, 1) := by decide +kernel
theorem dX6_readFields_2 : decode cX6_readFields 2 = .ok (.iload_n 2, 1) := by decide +kernel
theorem dX6_readFields_3 : decode cX6_readFields 3 = .ok (.iconst 5, 1) := by decide +kernel
theorem dX6_readFields_4 : decode cX6_readFields 4 = .ok (.if_icmp .ge 73, 3) := by decide +kernel
theorem dX6_readFields_7 : decode cX6_readFields 7 = .ok (.iload_n 2, 1) := by decide +kernel
theorem dX6_readFields_8 : decode cX6_readFields 8 = .ok (.ifCond .le 14, 3) := by decide +kernel
theorem dX6_readFields_11 : decode cX6_readFields 11 = .ok (.aload_n 0, 1) := by decide +kernel
theorem dX6_readFields_12 : decode cX6_readFields 12 = .ok (.bipush 44, 2) := by decide +kernel
theorem dX6_readFields_14 : decode cX6_readFields 14 = .ok (.invokevirtual 27, 3) := by decide +kernel
theorem dX6_readFields_17 : decode cX6_readFields 17 = .ok (.ifCond .ne 5, 3) := by decide +kernel
theorem dX6_readFields_20 : decode cX6_readFields 20 = .ok (.iconst 1, 1) := by decide +kernel
theorem dX6_readFields_21 : decode cX6_readFields 21 = .ok (.ireturn, 1) := by decide +kernel
theorem dX6_readFields_22 : decode cX6_readFields 22 = .ok (.aload_n 0, 1) := by decide +kernel
theorem dX6_readFields_23 : decode cX6_readFields 23 = .ok (.bipush 45, 2) := by decide +kernel
theorem dX6_readFields_25 : decode cX6_readFields 25 = .ok (.invokevirtual 27, 3) := by decide +kernel
theorem dX6_readFields_28 : decode cX6_readFields 28 = .ok (.istore_n 3, 1) := by decide +kernel
theorem dX6_readFields_29 : decode cX6_readFields 29 = .ok (.aload_n 1, 1) := by decide +kernel
theorem dX6_readFields_30 : decode cX6_readFields 30 = .ok (.getfield 69, 3) := by decide +kernel
theorem dX6_readFields_33 : decode cX6_readFields 33 = .ok (.iload_n 2, 1) := by decide +kernel
theorem dX6_readFields_34 : decode cX6_readFields 34 = .ok (.iload_n 3, 1) := by decide +kernel
theorem dX6_readFields_35 : decode cX6_readFields 35 = .ok (.ifCond .eq 7, 3) := by decide +kernel
theorem dX6_readFields_38 : decode cX6_readFields 38 = .ok (.iconst 0, 1) := by decide +kernel
theorem dX6_readFields_39 : decode cX6_readFields 39 = .ok (.goto 9, 3) := by decide +kernel
theorem dX6_readFields_42 : decode cX6_readFields 42 = .ok (.aload_n 0, 1) := by decide +kernel
theorem dX6_readFields_43 : decode cX6_readFields 43 = .ok (.bipush 12, 2) := by decide +kernel
theorem dX6_readFields_45 : decode cX6_readFields 45 = .ok (.invokevirtual 60, 3) := by decide +kernel
theorem dX6_readFields_48 : decode cX6_readFields 48 = .ok (.iastore, 1) := by decide +kernel
theorem dX6_readFields_49 : decode cX6_readFields 49 = .ok (.iload_n 3, 1) := by decide +kernel
theorem dX6_readFields_50 : decode cX6_readFields 50 = .ok (.ifCond .ne 14, 3) := by decide +kernel
theorem dX6_readFields_53 : decode cX6_readFields 53 = .ok (.aload_n 1, 1) := by decide +kernel
theorem dX6_readFields_54 : decode cX6_readFields 54 = .ok (.getfield 69, 3) := by decide +kernel
theorem dX6_readFields_57 : decode cX6_readFields 57 = .ok (.iload_n 2, 1) := by decide +kernel
theorem dX6_readFields_58 : decode cX6_readFields 58 = .ok (.iaload, 1) := by decide +kernel
theorem dX6_readFields_59 : decode cX6_readFields 59 = .ok (.ifCond .ne 5, 3) := by decide +kernel
theorem dX6_readFields_62 : decode cX6_readFields 62 = .ok (.iconst 0, 1) := by decide +kernel
theorem dX6_readFields_63 : decode cX6_readFields 63 = .ok (.ireturn, 1) := by decide +kernel
theorem dX6_readFields_64 : decode cX6_readFields 64 = .ok (.aload_n 1, 1) := by decide +kernel
theorem dX6_readFields_65 : decode cX6_readFields 65 = .ok (.iload_n 2, 1) := by decide +kernel
theorem dX6_readFields_66 : decode cX6_readFields 66 = .ok (.iconst 1, 1) := by decide +kernel
theorem dX6_readFields_67 : decode cX6_readFields 67 = .ok (.iadd, 1) := by decide +kernel
theorem dX6_readFields_68 : decode cX6_readFields 68 = .ok (.putfield 72, 3) := by decide +kernel
theorem dX6_readFields_71 : decode cX6_readFields 71 = .ok (.iinc 2 1, 3) := by decide +kernel
theorem dX6_readFields_74 : decode cX6_readFields 74 = .ok (.goto (-72), 3) := by decide +kernel
theorem dX6_readFields_77 : decode cX6_readFields 77 = .ok (.iconst 1, 1) := by decide +kernel
theorem dX6_readFields_78 : decode cX6_readFields 78 = .ok (.ireturn, 1) := by decide +kernel
def R_X6_readFields  (σ : kS) (x : Int32) (τ : kS) : Prop := Run SX jX6_readFields [(.ref 1), (.ref 11)] σ (some (.int x)) τ
def E_X6_readFields_2 (l2 : Int32) (σ : kS) (x : Int32) (τ : kS) : Prop := Ex SX jX6_readFields 2 [some (.ref 1), some (.ref 11), some (.int l2), none] [] σ (some (.int x)) τ
def E_X6_readFields_22 (l2 : Int32) (σ : kS) (x : Int32) (τ : kS) : Prop := Ex SX jX6_readFields 22 [some (.ref 1), some (.ref 11), some (.int l2), none] [] σ (some (.int x)) τ
def E_X6_readFields_48 (l2 : Int32) (l3 : Int32) (y0 : Int32) (y1 : Int32) (σ : kS) (x : Int32) (τ : kS) : Prop := Ex SX jX6_readFields 48 [some (.ref 1), some (.ref 11), some (.int l2), some (.int l3)] [(.int y0), (.int y1), (.ref 13)] σ (some (.int x)) τ
set_option maxRecDepth 20000 in
theorem t_X6_readFields  {σ : kS} {x : Int32} {τ : kS}  (h : E_X6_readFields_2 (0 : Int32) σ x τ) : R_X6_readFields  σ x τ := by
  refine x_run [some (.ref 1), some (.ref 11), none, none] (by decide +kernel) rfl (Nat.le_of_ble_eq_true rfl) ?_
  refine x_iconst (pc := 0) (0 : Int32) dX6_readFields_0 (by decide +kernel) ?_
  refine x_istore_n (pc := 1) 2 dX6_readFields_1 rfl (by decide) rfl ?_
  exact h
set_option maxRecDepth 20000 in
theorem t_X6_readFields_2 {l2 : Int32} {σ : kS} {x : Int32} {τ : kS}  (h : ((5 : Int32) ≤ l2 → x = (1 : Int32) ∧ τ = σ) ∧ (¬ (5 : Int32) ≤ l2 → (l2 ≤ 0 → E_X6_readFields_22 l2 σ x τ) ∧ (¬ l2 ≤ 0 → ∃ (x4 : Int32) (s3 : kS), R_X6_take (44 : Int32) σ x4 s3 ∧ ((¬ x4 = 0 → E_X6_readFields_22 l2 s3 x τ) ∧ (x4 = 0 → x = (1 : Int32) ∧ τ = s3))))) : E_X6_readFields_2 l2 σ x τ := by
  unfold E_X6_readFields_2
  refine x_iload_n (pc := 2) 2 dX6_readFields_2 rfl rfl ?_
  refine x_iconst (pc := 3) (5 : Int32) dX6_readFields_3 (by decide +kernel) ?_
  refine x_icmp_ge (pc := 4) 77 dX6_readFields_4 (by decide) (fun c1 => ?_) (fun c1 => ?_)
  · replace h := h.1 c1
    refine x_iconst (pc := 77) (1 : Int32) dX6_readFields_77 (by decide +kernel) ?_
    exact x_zreturn2 (pc := 78) dX6_readFields_78 rfl rfl h.1 h.2
  · replace h := h.2 c1
    refine x_iload_n (pc := 7) 2 dX6_readFields_7 rfl rfl ?_
    refine x_if_le (pc := 8) 22 dX6_readFields_8 (by decide) (fun c2 => ?_) (fun c2 => ?_)
    · replace h := h.1 c2
      exact h
    · replace h := h.2 c2
      refine x_aload_n (pc := 11) 0 dX6_readFields_11 rfl rfl ?_
      refine x_bipush (pc := 12) (44 : Int32) dX6_readFields_12 (by decide +kernel) ?_
      obtain ⟨x4, s3, hr, h⟩ := h
      refine x_callV (pc := 14) [(.int (44 : Int32))] [] dX6_readFields_14 ⟨⟨hX6_take.1, hX6_take.2.1, hX6_take.2.2, by decide⟩, mX6_27, vX6_take.1, vX6_take.2⟩ (ci := 6) rfl rfl rfl rfl (Nat.le_of_ble_eq_true rfl) hr ?_
      refine x_if_ne (pc := 17) 22 dX6_readFields_17 (by decide) (fun c5 => ?_) (fun c5 => ?_)
      · replace h := h.1 c5
        exact h
      · replace h := h.2 c5
        refine x_iconst (pc := 20) (1 : Int32) dX6_readFields_20 (by decide +kernel) ?_
        exact x_zreturn2 (pc := 21) dX6_readFields_21 rfl rfl h.1 h.2
set_option maxRecDepth 20000 in
theorem t_X6_readFields_22 {l2 : Int32} {σ : kS} {x : Int32} {τ : kS}  (h : ∃ (x2 : Int32) (s1 : kS), R_X6_take (45 : Int32) σ x2 s1 ∧ ((x2 = 0 → ∃ (x5 : Int32) (s4 : kS), R_X6_takeRising (12 : Int32) s1 x5 s4 ∧ (E_X6_readFields_48 l2 x2 x5 l2 s4 x τ)) ∧ (¬ x2 = 0 → E_X6_readFields_48 l2 x2 (0 : Int32) l2 s1 x τ))) : E_X6_readFields_22 l2 σ x τ := by
  unfold E_X6_readFields_22
  refine x_aload_n (pc := 22) 0 dX6_readFields_22 rfl rfl ?_
  refine x_bipush (pc := 23) (45 : Int32) dX6_readFields_23 (by decide +kernel) ?_
  obtain ⟨x2, s1, hr, h⟩ := h
  refine x_callV (pc := 25) [(.int (45 : Int32))] [] dX6_readFields_25 ⟨⟨hX6_take.1, hX6_take.2.1, hX6_take.2.2, by decide⟩, mX6_27, vX6_take.1, vX6_take.2⟩ (ci := 6) rfl rfl rfl rfl (Nat.le_of_ble_eq_true rfl) hr ?_
  refine x_istore_n (pc := 28) 3 dX6_readFields_28 rfl (by decide) rfl ?_
  refine x_aload_n (pc := 29) 1 dX6_readFields_29 rfl rfl ?_
  refine x_getR (pc := 30) dX6_readFields_30 fX6_69 rfl rfl ?_
  refine x_iload_n (pc := 33) 2 dX6_readFields_33 rfl rfl ?_
  refine x_iload_n (pc := 34) 3 dX6_readFields_34 rfl rfl ?_
  refine x_if_eq (pc := 35) 42 dX6_readFields_35 (by decide) (fun c3 => ?_) (fun c3 => ?_)
  · replace h := h.1 c3
    refine x_aload_n (pc := 42) 0 dX6_readFields_42 rfl rfl ?_
    refine x_bipush (pc := 43) (12 : Int32) dX6_readFields_43 (by decide +kernel) ?_
    obtain ⟨x5, s4, hr, h⟩ := h
    refine x_callV (pc := 45) [(.int (12 : Int32))] [(.int l2), (.ref 13)] dX6_readFields_45 ⟨⟨hX6_takeRising.1, hX6_takeRising.2.1, hX6_takeRising.2.2, by decide⟩, mX6_60, vX6_takeRising.1, vX6_takeRising.2⟩ (ci := 6) rfl rfl rfl rfl (Nat.le_of_ble_eq_true rfl) hr ?_
    exact h
  · replace h := h.2 c3
    refine x_iconst (pc := 38) (0 : Int32) dX6_readFields_38 (by decide +kernel) ?_
    refine x_goto (pc := 39) 48 dX6_readFields_39 (by decide) ?_
    exact h
set_option maxRecDepth 20000 in
theorem t_X6_readFields_48 {l2 : Int32} {l3 : Int32} {y0 : Int32} {y1 : Int32} {σ : kS} {x : Int32} {τ : kS}  (h : vp_in y1 5 ∧ ((¬ l3 = 0 → E_X6_readFields_2 (l2 + (1 : Int32)) (k_si (k_si σ 13 y1.toNatClampNeg y0) 11 1 (l2 + (1 : Int32))) x τ) ∧ (l3 = 0 → vp_in l2 5 ∧ ((¬ ((k_si σ 13 y1.toNatClampNeg y0).1 13 l2.toNatClampNeg) = 0 → E_X6_readFields_2 (l2 + (1 : Int32)) (k_si (k_si σ 13 y1.toNatClampNeg y0) 11 1 (l2 + (1 : Int32))) x τ) ∧ (((k_si σ 13 y1.toNatClampNeg y0).1 13 l2.toNatClampNeg) = 0 → x = (0 : Int32) ∧ τ = (k_si σ 13 y1.toNatClampNeg y0)))))) : E_X6_readFields_48 l2 l3 y0 y1 σ x τ := by
  unfold E_X6_readFields_48
  obtain ⟨g1, h⟩ := h
  refine x_iastore (pc := 48) (n := 5) dX6_readFields_48 rfl g1 ?_
  refine x_iload_n (pc := 49) 3 dX6_readFields_49 rfl rfl ?_
  refine x_if_ne (pc := 50) 64 dX6_readFields_50 (by decide) (fun c2 => ?_) (fun c2 => ?_)
  · replace h := h.1 c2
    refine x_aload_n (pc := 64) 1 dX6_readFields_64 rfl rfl ?_
    refine x_iload_n (pc := 65) 2 dX6_readFields_65 rfl rfl ?_
    refine x_iconst (pc := 66) (1 : Int32) dX6_readFields_66 (by decide +kernel) ?_
    refine x_iadd (pc := 67) dX6_readFields_67 ?_
    refine x_putI (pc := 68) dX6_readFields_68 pX6_72 rfl rfl ?_
    refine x_iinc (pc := 71) (1 : Int32) dX6_readFields_71 (by decide) rfl rfl (by decide +kernel) ?_
    refine x_goto (pc := 74) 2 dX6_readFields_74 (by decide) ?_
    exact x_mask [true, true, true, false] h
  · replace h := h.2 c2
    refine x_aload_n (pc := 53) 1 dX6_readFields_53 rfl rfl ?_
    refine x_getR (pc := 54) dX6_readFields_54 fX6_69 rfl rfl ?_
    refine x_iload_n (pc := 57) 2 dX6_readFields_57 rfl rfl ?_
    obtain ⟨g3, h⟩ := h
    refine x_iaload (pc := 58) (n := 5) dX6_readFields_58 rfl g3 ?_
    refine x_if_ne (pc := 59) 64 dX6_readFields_59 (by decide) (fun c4 => ?_) (fun c4 => ?_)
    · replace h := h.1 c4
      refine x_aload_n (pc := 64) 1 dX6_readFields_64 rfl rfl ?_
      refine x_iload_n (pc := 65) 2 dX6_readFields_65 rfl rfl ?_
      refine x_iconst (pc := 66) (1 : Int32) dX6_readFields_66 (by decide +kernel) ?_
      refine x_iadd (pc := 67) dX6_readFields_67 ?_
      refine x_putI (pc := 68) dX6_readFields_68 pX6_72 rfl rfl ?_
      refine x_iinc (pc := 71) (1 : Int32) dX6_readFields_71 (by decide) rfl rfl (by decide +kernel) ?_
      refine x_goto (pc := 74) 2 dX6_readFields_74 (by decide) ?_
      exact x_mask [true, true, true, false] h
    · replace h := h.2 c4
      refine x_iconst (pc := 62) (0 : Int32) dX6_readFields_62 (by decide +kernel) ?_
      exact x_zreturn2 (pc := 63) dX6_readFields_63 rfl rfl h.1 h.2
theorem dX6_readKind_0 : decode cX6_readKind 0 = .ok (.aload_n 0, 1) := by decide +kernel
theorem dX6_readKind_1 : decode cX6_readKind 1 = .ok (.invokevirtual 41, 3) := by decide +kernel
theorem dX6_readKind_4 : decode cX6_readKind 4 = .ok (.lookupswitch 102 #[(100, 82), (102, 92), (104, 62), (115, 52), (116, 72)], 52) := by decide +kernel
theorem dX6_readKind_56 : decode cX6_readKind 56 = .ok (.aload_n 1, 1) := by decide +kernel
theorem dX6_readKind_57 : decode cX6_readKind 57 = .ok (.getfield 87, 3) := by decide +kernel
theorem dX6_readKind_60 : decode cX6_readKind 60 = .ok (.iload_n 2, 1) := by decide +kernel
theorem dX6_readKind_61 : decode cX6_readKind 61 = .ok (.iconst 1, 1) := by decide +kernel
theorem dX6_readKind_62 : decode cX6_readKind 62 = .ok (.iastore, 1) := by decide +kernel
theorem dX6_readKind_63 : decode cX6_readKind 63 = .ok (.goto 45, 3) := by decide +kernel
theorem dX6_readKind_66 : decode cX6_readKind 66 = .ok (.aload_n 1, 1) := by decide +kernel
theorem dX6_readKind_67 : decode cX6_readKind 67 = .ok (.getfield 87, 3) := by decide +kernel
theorem dX6_readKind_70 : decode cX6_readKind 70 = .ok (.iload_n 2, 1) := by decide +kernel
theorem dX6_readKind_71 : decode cX6_readKind 71 = .ok (.iconst 2, 1) := by decide +kernel
theorem dX6_readKind_72 : decode cX6_readKind 72 = .ok (.iastore, 1) := by decide +kernel
theorem dX6_readKind_73 : decode cX6_readKind 73 = .ok (.goto 35, 3) := by decide +kernel
theorem dX6_readKind_76 : decode cX6_readKind 76 = .ok (.aload_n 1, 1) := by decide +kernel
theorem dX6_readKind_77 : decode cX6_readKind 77 = .ok (.getfield 87, 3) := by decide +kernel
theorem dX6_readKind_80 : decode cX6_readKind 80 = .ok (.iload_n 2, 1) := by decide +kernel
theorem dX6_readKind_81 : decode cX6_readKind 81 = .ok (.iconst 3, 1) := by decide +kernel
theorem dX6_readKind_82 : decode cX6_readKind 82 = .ok (.iastore, 1) := by decide +kernel
theorem dX6_readKind_83 : decode cX6_readKind 83 = .ok (.goto 25, 3) := by decide +kernel
theorem dX6_readKind_86 : decode cX6_readKind 86 = .ok (.aload_n 1, 1) := by decide +kernel
theorem dX6_readKind_87 : decode cX6_readKind 87 = .ok (.getfield 87, 3) := by decide +kernel
theorem dX6_readKind_90 : decode cX6_readKind 90 = .ok (.iload_n 2, 1) := by decide +kernel
theorem dX6_readKind_91 : decode cX6_readKind 91 = .ok (.iconst 4, 1) := by decide +kernel
theorem dX6_readKind_92 : decode cX6_readKind 92 = .ok (.iastore, 1) := by decide +kernel
theorem dX6_readKind_93 : decode cX6_readKind 93 = .ok (.goto 15, 3) := by decide +kernel
theorem dX6_readKind_96 : decode cX6_readKind 96 = .ok (.aload_n 1, 1) := by decide +kernel
theorem dX6_readKind_97 : decode cX6_readKind 97 = .ok (.getfield 87, 3) := by decide +kernel
theorem dX6_readKind_100 : decode cX6_readKind 100 = .ok (.iload_n 2, 1) := by decide +kernel
theorem dX6_readKind_101 : decode cX6_readKind 101 = .ok (.iconst 5, 1) := by decide +kernel
theorem dX6_readKind_102 : decode cX6_readKind 102 = .ok (.iastore, 1) := by decide +kernel
theorem dX6_readKind_103 : decode cX6_readKind 103 = .ok (.goto 5, 3) := by decide +kernel
theorem dX6_readKind_106 : decode cX6_readKind 106 = .ok (.iconst 0, 1) := by decide +kernel
theorem dX6_readKind_107 : decode cX6_readKind 107 = .ok (.ireturn, 1) := by decide +kernel
theorem dX6_readKind_108 : decode cX6_readKind 108 = .ok (.aload_n 0, 1) := by decide +kernel
theorem dX6_readKind_109 : decode cX6_readKind 109 = .ok (.dup, 1) := by decide +kernel
theorem dX6_readKind_110 : decode cX6_readKind 110 = .ok (.getfield 19, 3) := by decide +kernel
theorem dX6_readKind_113 : decode cX6_readKind 113 = .ok (.iconst 1, 1) := by decide +kernel
theorem dX6_readKind_114 : decode cX6_readKind 114 = .ok (.iadd, 1) := by decide +kernel
theorem dX6_readKind_115 : decode cX6_readKind 115 = .ok (.putfield 19, 3) := by decide +kernel
theorem dX6_readKind_118 : decode cX6_readKind 118 = .ok (.iconst 1, 1) := by decide +kernel
theorem dX6_readKind_119 : decode cX6_readKind 119 = .ok (.ireturn, 1) := by decide +kernel
def R_X6_readKind (a2 : Int32) (σ : kS) (x : Int32) (τ : kS) : Prop := Run SX jX6_readKind [(.ref 1), (.ref 11), (.int a2)] σ (some (.int x)) τ
set_option maxRecDepth 20000 in
theorem t_X6_readKind {a2 : Int32} {σ : kS} {x : Int32} {τ : kS}  (h : ∃ (x2 : Int32) (s1 : kS), R_X6_peek  σ x2 s1 ∧ ((x2.toInt = 100 → vp_in a2 5 ∧ (x = (1 : Int32) ∧ τ = (k_si (k_si s1 14 a2.toNatClampNeg (4 : Int32)) 1 2 ((s1.1 1 2) + (1 : Int32))))) ∧ (¬ x2.toInt = 100 → (x2.toInt = 102 → vp_in a2 5 ∧ (x = (1 : Int32) ∧ τ = (k_si (k_si s1 14 a2.toNatClampNeg (5 : Int32)) 1 2 ((s1.1 1 2) + (1 : Int32))))) ∧ (¬ x2.toInt = 102 → (x2.toInt = 104 → vp_in a2 5 ∧ (x = (1 : Int32) ∧ τ = (k_si (k_si s1 14 a2.toNatClampNeg (2 : Int32)) 1 2 ((s1.1 1 2) + (1 : Int32))))) ∧ (¬ x2.toInt = 104 → (x2.toInt = 115 → vp_in a2 5 ∧ (x = (1 : Int32) ∧ τ = (k_si (k_si s1 14 a2.toNatClampNeg (1 : Int32)) 1 2 ((s1.1 1 2) + (1 : Int32))))) ∧ (¬ x2.toInt = 115 → (x2.toInt = 116 → vp_in a2 5 ∧ (x = (1 : Int32) ∧ τ = (k_si (k_si s1 14 a2.toNatClampNeg (3 : Int32)) 1 2 ((s1.1 1 2) + (1 : Int32))))) ∧ (¬ x2.toInt = 116 → x = (0 : Int32) ∧ τ = s1))))))) : R_X6_readKind a2 σ x τ := by
  refine x_run [some (.ref 1), some (.ref 11), some (.int a2)] (by decide +kernel) rfl (Nat.le_of_ble_eq_true rfl) ?_
  refine x_aload_n (pc := 0) 0 dX6_readKind_0 rfl rfl ?_
  obtain ⟨x2, s1, hr, h⟩ := h
  refine x_callV (pc := 1) [] [] dX6_readKind_1 ⟨⟨hX6_peek.1, hX6_peek.2.1, hX6_peek.2.2, by decide⟩, mX6_41, vX6_peek.1, vX6_peek.2⟩ (ci := 6) rfl rfl rfl rfl (Nat.le_of_ble_eq_true rfl) hr ?_
  refine x_lookup (pc := 4) dX6_readKind_4 (by decide +kernel) (by decide +kernel) (by decide) ?_
  refine k_lk_cons (fun c3 => ?_) (fun c3 => ?_)
  · replace h := h.1 c3
    refine x_aload_n (pc := 86) 1 dX6_readKind_86 rfl rfl ?_
    refine x_getR (pc := 87) dX6_readKind_87 fX6_87 rfl rfl ?_
    refine x_iload_n (pc := 90) 2 dX6_readKind_90 rfl rfl ?_
    refine x_iconst (pc := 91) (4 : Int32) dX6_readKind_91 (by decide +kernel) ?_
    obtain ⟨g4, h⟩ := h
    refine x_iastore (pc := 92) (n := 5) dX6_readKind_92 rfl g4 ?_
    refine x_goto (pc := 93) 108 dX6_readKind_93 (by decide) ?_
    refine x_aload_n (pc := 108) 0 dX6_readKind_108 rfl rfl ?_
    refine x_dup (pc := 109) dX6_readKind_109 rfl ?_
    refine x_getI (pc := 110) dX6_readKind_110 fX6_19 rfl rfl ?_
    refine x_iconst (pc := 113) (1 : Int32) dX6_readKind_113 (by decide +kernel) ?_
    refine x_iadd (pc := 114) dX6_readKind_114 ?_
    refine x_putI (pc := 115) dX6_readKind_115 pX6_19 rfl rfl ?_
    refine x_iconst (pc := 118) (1 : Int32) dX6_readKind_118 (by decide +kernel) ?_
    exact x_zreturn2 (pc := 119) dX6_readKind_119 rfl rfl h.1 h.2
  replace h := h.2 c3
  refine k_lk_cons (fun c3 => ?_) (fun c3 => ?_)
  · replace h := h.1 c3
    refine x_aload_n (pc := 96) 1 dX6_readKind_96 rfl rfl ?_
    refine x_getR (pc := 97) dX6_readKind_97 fX6_87 rfl rfl ?_
    refine x_iload_n (pc := 100) 2 dX6_readKind_100 rfl rfl ?_
    refine x_iconst (pc := 101) (5 : Int32) dX6_readKind_101 (by decide +kernel) ?_
    obtain ⟨g5, h⟩ := h
    refine x_iastore (pc := 102) (n := 5) dX6_readKind_102 rfl g5 ?_
    refine x_goto (pc := 103) 108 dX6_readKind_103 (by decide) ?_
    refine x_aload_n (pc := 108) 0 dX6_readKind_108 rfl rfl ?_
    refine x_dup (pc := 109) dX6_readKind_109 rfl ?_
    refine x_getI (pc := 110) dX6_readKind_110 fX6_19 rfl rfl ?_
    refine x_iconst (pc := 113) (1 : Int32) dX6_readKind_113 (by decide +kernel) ?_
    refine x_iadd (pc := 114) dX6_readKind_114 ?_
    refine x_putI (pc := 115) dX6_readKind_115 pX6_19 rfl rfl ?_
    refine x_iconst (pc := 118) (1 : Int32) dX6_readKind_118 (by decide +kernel) ?_
    exact x_zreturn2 (pc := 119) dX6_readKind_119 rfl rfl h.1 h.2
  replace h := h.2 c3
  refine k_lk_cons (fun c3 => ?_) (fun c3 => ?_)
  · replace h := h.1 c3
    refine x_aload_n (pc := 66) 1 dX6_readKind_66 rfl rfl ?_
    refine x_getR (pc := 67) dX6_readKind_67 fX6_87 rfl rfl ?_
    refine x_iload_n (pc := 70) 2 dX6_readKind_70 rfl rfl ?_
    refine x_iconst (pc := 71) (2 : Int32) dX6_readKind_71 (by decide +kernel) ?_
    obtain ⟨g6, h⟩ := h
    refine x_iastore (pc := 72) (n := 5) dX6_readKind_72 rfl g6 ?_
    refine x_goto (pc := 73) 108 dX6_readKind_73 (by decide) ?_
    refine x_aload_n (pc := 108) 0 dX6_readKind_108 rfl rfl ?_
    refine x_dup (pc := 109) dX6_readKind_109 rfl ?_
    refine x_getI (pc := 110) dX6_readKind_110 fX6_19 rfl rfl ?_
    refine x_iconst (pc := 113) (1 : Int32) dX6_readKind_113 (by decide +kernel) ?_
    refine x_iadd (pc := 114) dX6_readKind_114 ?_
    refine x_putI (pc := 115) dX6_readKind_115 pX6_19 rfl rfl ?_
    refine x_iconst (pc := 118) (1 : Int32) dX6_readKind_118 (by decide +kernel) ?_
    exact x_zreturn2 (pc := 119) dX6_readKind_119 rfl rfl h.1 h.2
  replace h := h.2 c3
  refine k_lk_cons (fun c3 => ?_) (fun c3 => ?_)
  · replace h := h.1 c3
    refine x_aload_n (pc := 56) 1 dX6_readKind_56 rfl rfl ?_
    refine x_getR (pc := 57) dX6_readKind_57 fX6_87 rfl rfl ?_
    refine x_iload_n (pc := 60) 2 dX6_readKind_60 rfl rfl ?_
    refine x_iconst (pc := 61) (1 : Int32) dX6_readKind_61 (by decide +kernel) ?_
    obtain ⟨g7, h⟩ := h
    refine x_iastore (pc := 62) (n := 5) dX6_readKind_62 rfl g7 ?_
    refine x_goto (pc := 63) 108 dX6_readKind_63 (by decide) ?_
    refine x_aload_n (pc := 108) 0 dX6_readKind_108 rfl rfl ?_
    refine x_dup (pc := 109) dX6_readKind_109 rfl ?_
    refine x_getI (pc := 110) dX6_readKind_110 fX6_19 rfl rfl ?_
    refine x_iconst (pc := 113) (1 : Int32) dX6_readKind_113 (by decide +kernel) ?_
    refine x_iadd (pc := 114) dX6_readKind_114 ?_
    refine x_putI (pc := 115) dX6_readKind_115 pX6_19 rfl rfl ?_
    refine x_iconst (pc := 118) (1 : Int32) dX6_readKind_118 (by decide +kernel) ?_
    exact x_zreturn2 (pc := 119) dX6_readKind_119 rfl rfl h.1 h.2
  replace h := h.2 c3
  refine k_lk_cons (fun c3 => ?_) (fun c3 => ?_)
  · replace h := h.1 c3
    refine x_aload_n (pc := 76) 1 dX6_readKind_76 rfl rfl ?_
    refine x_getR (pc := 77) dX6_readKind_77 fX6_87 rfl rfl ?_
    refine x_iload_n (pc := 80) 2 dX6_readKind_80 rfl rfl ?_
    refine x_iconst (pc := 81) (3 : Int32) dX6_readKind_81 (by decide +kernel) ?_
    obtain ⟨g8, h⟩ := h
    refine x_iastore (pc := 82) (n := 5) dX6_readKind_82 rfl g8 ?_
    refine x_goto (pc := 83) 108 dX6_readKind_83 (by decide) ?_
    refine x_aload_n (pc := 108) 0 dX6_readKind_108 rfl rfl ?_
    refine x_dup (pc := 109) dX6_readKind_109 rfl ?_
    refine x_getI (pc := 110) dX6_readKind_110 fX6_19 rfl rfl ?_
    refine x_iconst (pc := 113) (1 : Int32) dX6_readKind_113 (by decide +kernel) ?_
    refine x_iadd (pc := 114) dX6_readKind_114 ?_
    refine x_putI (pc := 115) dX6_readKind_115 pX6_19 rfl rfl ?_
    refine x_iconst (pc := 118) (1 : Int32) dX6_readKind_118 (by decide +kernel) ?_
    exact x_zreturn2 (pc := 119) dX6_readKind_119 rfl rfl h.1 h.2
  replace h := h.2 c3
  refine k_lk_nil ?_
  refine x_iconst (pc := 106) (0 : Int32) dX6_readKind_106 (by decide +kernel) ?_
  exact x_zreturn2 (pc := 107) dX6_readKind_107 rfl rfl h.1 h.2
theorem dX6_readRange_0 : decode cX6_readRange 0 = .ok (.aload_n 1, 1) := by decide +kernel
theorem dX6_readRange_1 : decode cX6_readRange 1 = .ok (.getfield 90, 3) := by decide +kernel
theorem dX6_readRange_4 : decode cX6_readRange 4 = .ok (.iload_n 2, 1) := by decide +kernel
theorem dX6_readRange_5 : decode cX6_readRange 5 = .ok (.aload_n 0, 1) := by decide +kernel
theorem dX6_readRange_6 : decode cX6_readRange 6 = .ok (.invokevirtual 45, 3) := by decide +kernel
theorem dX6_readRange_9 : decode cX6_readRange 9 = .ok (.iastore, 1) := by decide +kernel
theorem dX6_readRange_10 : decode cX6_readRange 10 = .ok (.aload_n 1, 1) := by decide +kernel
theorem dX6_readRange_11 : decode cX6_readRange 11 = .ok (.getfield 90, 3) := by decide +kernel
theorem dX6_readRange_14 : decode cX6_readRange 14 = .ok (.iload_n 2, 1) := by decide +kernel
theorem dX6_readRange_15 : decode cX6_readRange 15 = .ok (.iaload, 1) := by decide +kernel
theorem dX6_readRange_16 : decode cX6_readRange 16 = .ok (.ifCond .ge 5, 3) := by decide +kernel
theorem dX6_readRange_19 : decode cX6_readRange 19 = .ok (.iconst 0, 1) := by decide +kernel
theorem dX6_readRange_20 : decode cX6_readRange 20 = .ok (.ireturn, 1) := by decide +kernel
theorem dX6_readRange_21 : decode cX6_readRange 21 = .ok (.aload_n 0, 1) := by decide +kernel
theorem dX6_readRange_22 : decode cX6_readRange 22 = .ok (.dup, 1) := by decide +kernel
theorem dX6_readRange_23 : decode cX6_readRange 23 = .ok (.getfield 19, 3) := by decide +kernel
theorem dX6_readRange_26 : decode cX6_readRange 26 = .ok (.iconst 1, 1) := by decide +kernel
theorem dX6_readRange_27 : decode cX6_readRange 27 = .ok (.iadd, 1) := by decide +kernel
theorem dX6_readRange_28 : decode cX6_readRange 28 = .ok (.putfield 19, 3) := by decide +kernel
theorem dX6_readRange_31 : decode cX6_readRange 31 = .ok (.aload_n 1, 1) := by decide +kernel
theorem dX6_readRange_32 : decode cX6_readRange 32 = .ok (.getfield 93, 3) := by decide +kernel
theorem dX6_readRange_35 : decode cX6_readRange 35 = .ok (.iload_n 2, 1) := by decide +kernel
theorem dX6_readRange_36 : decode cX6_readRange 36 = .ok (.aload_n 0, 1) := by decide +kernel
theorem dX6_readRange_37 : decode cX6_readRange 37 = .ok (.invokevirtual 45, 3) := by decide +kernel
theorem dX6_readRange_40 : decode cX6_readRange 40 = .ok (.iastore, 1) := by decide +kernel
theorem dX6_readRange_41 : decode cX6_readRange 41 = .ok (.aload_n 1, 1) := by decide +kernel
theorem dX6_readRange_42 : decode cX6_readRange 42 = .ok (.getfield 93, 3) := by decide +kernel
theorem dX6_readRange_45 : decode cX6_readRange 45 = .ok (.iload_n 2, 1) := by decide +kernel
theorem dX6_readRange_46 : decode cX6_readRange 46 = .ok (.iaload, 1) := by decide +kernel
theorem dX6_readRange_47 : decode cX6_readRange 47 = .ok (.aload_n 1, 1) := by decide +kernel
theorem dX6_readRange_48 : decode cX6_readRange 48 = .ok (.getfield 90, 3) := by decide +kernel
theorem dX6_readRange_51 : decode cX6_readRange 51 = .ok (.iload_n 2, 1) := by decide +kernel
theorem dX6_readRange_52 : decode cX6_readRange 52 = .ok (.iaload, 1) := by decide +kernel
theorem dX6_readRange_53 : decode cX6_readRange 53 = .ok (.if_icmp .ge 5, 3) := by decide +kernel
theorem dX6_readRange_56 : decode cX6_readRange 56 = .ok (.iconst 0, 1) := by decide +kernel
theorem dX6_readRange_57 : decode cX6_readRange 57 = .ok (.ireturn, 1) := by decide +kernel
theorem dX6_readRange_58 : decode cX6_readRange 58 = .ok (.aload_n 0, 1) := by decide +kernel
theorem dX6_readRange_59 : decode cX6_readRange 59 = .ok (.dup, 1) := by decide +kernel
theorem dX6_readRange_60 : decode cX6_readRange 60 = .ok (.getfield 19, 3) := by decide +kernel
theorem dX6_readRange_63 : decode cX6_readRange 63 = .ok (.iconst 1, 1) := by decide +kernel
theorem dX6_readRange_64 : decode cX6_readRange 64 = .ok (.iadd, 1) := by decide +kernel
theorem dX6_readRange_65 : decode cX6_readRange 65 = .ok (.putfield 19, 3) := by decide +kernel
theorem dX6_readRange_68 : decode cX6_readRange 68 = .ok (.iconst 1, 1) := by decide +kernel
theorem dX6_readRange_69 : decode cX6_readRange 69 = .ok (.ireturn, 1) := by decide +kernel
def R_X6_readRange (a2 : Int32) (σ : kS) (x : Int32) (τ : kS) : Prop := Run SX jX6_readRange [(.ref 1), (.ref 11), (.int a2)] σ (some (.int x)) τ
set_option maxRecDepth 20000 in
theorem t_X6_readRange {a2 : Int32} {σ : kS} {x : Int32} {τ : kS}  (h : ∃ (x2 : Int32) (s1 : kS), R_X6_peekPitch  σ x2 s1 ∧ (vp_in a2 5 ∧ (vp_in a2 5 ∧ ((0 ≤ ((k_si s1 15 a2.toNatClampNeg x2).1 15 a2.toNatClampNeg) → ∃ (x7 : Int32) (s6 : kS), R_X6_peekPitch  (k_si (k_si s1 15 a2.toNatClampNeg x2) 1 2 ((s1.1 1 2) + (1 : Int32))) x7 s6 ∧ (vp_in a2 5 ∧ (vp_in a2 5 ∧ (vp_in a2 5 ∧ (((s6.1 15 a2.toNatClampNeg) ≤ ((k_si s6 16 a2.toNatClampNeg x7).1 16 a2.toNatClampNeg) → x = (1 : Int32) ∧ τ = (k_si (k_si s6 16 a2.toNatClampNeg x7) 1 2 ((s6.1 1 2) + (1 : Int32)))) ∧ (¬ (s6.1 15 a2.toNatClampNeg) ≤ ((k_si s6 16 a2.toNatClampNeg x7).1 16 a2.toNatClampNeg) → x = (0 : Int32) ∧ τ = (k_si s6 16 a2.toNatClampNeg x7))))))) ∧ (¬ 0 ≤ ((k_si s1 15 a2.toNatClampNeg x2).1 15 a2.toNatClampNeg) → x = (0 : Int32) ∧ τ = (k_si s1 15 a2.toNatClampNeg x2)))))) : R_X6_readRange a2 σ x τ := by
  refine x_run [some (.ref 1), some (.ref 11), some (.int a2)] (by decide +kernel) rfl (Nat.le_of_ble_eq_true rfl) ?_
  refine x_aload_n (pc := 0) 1 dX6_readRange_0 rfl rfl ?_
  refine x_getR (pc := 1) dX6_readRange_1 fX6_90 rfl rfl ?_
  refine x_iload_n (pc := 4) 2 dX6_readRange_4 rfl rfl ?_
  refine x_aload_n (pc := 5) 0 dX6_readRange_5 rfl rfl ?_
  obtain ⟨x2, s1, hr, h⟩ := h
  refine x_callV (pc := 6) [] [(.int a2), (.ref 15)] dX6_readRange_6 ⟨⟨hX6_peekPitch.1, hX6_peekPitch.2.1, hX6_peekPitch.2.2, by decide⟩, mX6_45, vX6_peekPitch.1, vX6_peekPitch.2⟩ (ci := 6) rfl rfl rfl rfl (Nat.le_of_ble_eq_true rfl) hr ?_
  obtain ⟨g3, h⟩ := h
  refine x_iastore (pc := 9) (n := 5) dX6_readRange_9 rfl g3 ?_
  refine x_aload_n (pc := 10) 1 dX6_readRange_10 rfl rfl ?_
  refine x_getR (pc := 11) dX6_readRange_11 fX6_90 rfl rfl ?_
  refine x_iload_n (pc := 14) 2 dX6_readRange_14 rfl rfl ?_
  obtain ⟨g4, h⟩ := h
  refine x_iaload (pc := 15) (n := 5) dX6_readRange_15 rfl g4 ?_
  refine x_if_ge (pc := 16) 21 dX6_readRange_16 (by decide) (fun c5 => ?_) (fun c5 => ?_)
  · replace h := h.1 c5
    refine x_aload_n (pc := 21) 0 dX6_readRange_21 rfl rfl ?_
    refine x_dup (pc := 22) dX6_readRange_22 rfl ?_
    refine x_getI (pc := 23) dX6_readRange_23 fX6_19 rfl rfl ?_
    refine x_iconst (pc := 26) (1 : Int32) dX6_readRange_26 (by decide +kernel) ?_
    refine x_iadd (pc := 27) dX6_readRange_27 ?_
    refine x_putI (pc := 28) dX6_readRange_28 pX6_19 rfl rfl ?_
    refine x_aload_n (pc := 31) 1 dX6_readRange_31 rfl rfl ?_
    refine x_getR (pc := 32) dX6_readRange_32 fX6_93 rfl rfl ?_
    refine x_iload_n (pc := 35) 2 dX6_readRange_35 rfl rfl ?_
    refine x_aload_n (pc := 36) 0 dX6_readRange_36 rfl rfl ?_
    obtain ⟨x7, s6, hr, h⟩ := h
    refine x_callV (pc := 37) [] [(.int a2), (.ref 16)] dX6_readRange_37 ⟨⟨hX6_peekPitch.1, hX6_peekPitch.2.1, hX6_peekPitch.2.2, by decide⟩, mX6_45, vX6_peekPitch.1, vX6_peekPitch.2⟩ (ci := 6) rfl rfl rfl rfl (Nat.le_of_ble_eq_true rfl) hr ?_
    obtain ⟨g8, h⟩ := h
    refine x_iastore (pc := 40) (n := 5) dX6_readRange_40 rfl g8 ?_
    refine x_aload_n (pc := 41) 1 dX6_readRange_41 rfl rfl ?_
    refine x_getR (pc := 42) dX6_readRange_42 fX6_93 rfl rfl ?_
    refine x_iload_n (pc := 45) 2 dX6_readRange_45 rfl rfl ?_
    obtain ⟨g9, h⟩ := h
    refine x_iaload (pc := 46) (n := 5) dX6_readRange_46 rfl g9 ?_
    refine x_aload_n (pc := 47) 1 dX6_readRange_47 rfl rfl ?_
    refine x_getR (pc := 48) dX6_readRange_48 fX6_90 rfl rfl ?_
    refine x_iload_n (pc := 51) 2 dX6_readRange_51 rfl rfl ?_
    obtain ⟨g10, h⟩ := h
    refine x_iaload (pc := 52) (n := 5) dX6_readRange_52 rfl g10 ?_
    refine x_icmp_ge (pc := 53) 58 dX6_readRange_53 (by decide) (fun c11 => ?_) (fun c11 => ?_)
    · replace h := h.1 c11
      refine x_aload_n (pc := 58) 0 dX6_readRange_58 rfl rfl ?_
      refine x_dup (pc := 59) dX6_readRange_59 rfl ?_
      refine x_getI (pc := 60) dX6_readRange_60 fX6_19 rfl rfl ?_
      refine x_iconst (pc := 63) (1 : Int32) dX6_readRange_63 (by decide +kernel) ?_
      refine x_iadd (pc := 64) dX6_readRange_64 ?_
      refine x_putI (pc := 65) dX6_readRange_65 pX6_19 rfl rfl ?_
      refine x_iconst (pc := 68) (1 : Int32) dX6_readRange_68 (by decide +kernel) ?_
      exact x_zreturn2 (pc := 69) dX6_readRange_69 rfl rfl h.1 h.2
    · replace h := h.2 c11
      refine x_iconst (pc := 56) (0 : Int32) dX6_readRange_56 (by decide +kernel) ?_
      exact x_zreturn2 (pc := 57) dX6_readRange_57 rfl rfl h.1 h.2
  · replace h := h.2 c5
    refine x_iconst (pc := 19) (0 : Int32) dX6_readRange_19 (by decide +kernel) ?_
    exact x_zreturn2 (pc := 20) dX6_readRange_20 rfl rfl h.1 h.2
theorem dX6_readPlace_0 : decode cX6_readPlace 0 = .ok (.aload_n 0, 1) := by decide +kernel
theorem dX6_readPlace_1 : decode cX6_readPlace 1 = .ok (.bipush 45, 2) := by decide +kernel
theorem dX6_readPlace_3 : decode cX6_readPlace 3 = .ok (.invokevirtual 27, 3) := by decide +kernel
theorem dX6_readPlace_6 : decode cX6_readPlace 6 = .ok (.ifCond .eq 12, 3) := by decide +kernel
theorem dX6_readPlace_9 : decode cX6_readPlace 9 = .ok (.aload_n 1, 1) := by decide +kernel
theorem dX6_readPlace_10 : decode cX6_readPlace 10 = .ok (.getfield 96, 3) := by decide +kernel
theorem dX6_readPlace_13 : decode cX6_readPlace 13 = .ok (.iload_n 2, 1) := by decide +kernel
theorem dX6_readPlace_14 : decode cX6_readPlace 14 = .ok (.iconst (-1), 1) := by decide +kernel
theorem dX6_readPlace_15 : decode cX6_readPlace 15 = .ok (.iastore, 1) := by decide +kernel
theorem dX6_readPlace_16 : decode cX6_readPlace 16 = .ok (.iconst 1, 1) := by decide +kernel
theorem dX6_readPlace_17 : decode cX6_readPlace 17 = .ok (.ireturn, 1) := by decide +kernel
theorem dX6_readPlace_18 : decode cX6_readPlace 18 = .ok (.aload_n 1, 1) := by decide +kernel
theorem dX6_readPlace_19 : decode cX6_readPlace 19 = .ok (.getfield 96, 3) := by decide +kernel
theorem dX6_readPlace_22 : decode cX6_readPlace 22 = .ok (.iload_n 2, 1) := by decide +kernel
theorem dX6_readPlace_23 : decode cX6_readPlace 23 = .ok (.aload_n 0, 1) := by decide +kernel
theorem dX6_readPlace_24 : decode cX6_readPlace 24 = .ok (.invokevirtual 41, 3) := by decide +kernel
theorem dX6_readPlace_27 : decode cX6_readPlace 27 = .ok (.bipush 48, 2) := by decide +kernel
theorem dX6_readPlace_29 : decode cX6_readPlace 29 = .ok (.isub, 1) := by decide +kernel
theorem dX6_readPlace_30 : decode cX6_readPlace 30 = .ok (.iastore, 1) := by decide +kernel
theorem dX6_readPlace_31 : decode cX6_readPlace 31 = .ok (.aload_n 1, 1) := by decide +kernel
theorem dX6_readPlace_32 : decode cX6_readPlace 32 = .ok (.getfield 96, 3) := by decide +kernel
theorem dX6_readPlace_35 : decode cX6_readPlace 35 = .ok (.iload_n 2, 1) := by decide +kernel
theorem dX6_readPlace_36 : decode cX6_readPlace 36 = .ok (.iaload, 1) := by decide +kernel
theorem dX6_readPlace_37 : decode cX6_readPlace 37 = .ok (.aload_n 1, 1) := by decide +kernel
theorem dX6_readPlace_38 : decode cX6_readPlace 38 = .ok (.getfield 72, 3) := by decide +kernel
theorem dX6_readPlace_41 : decode cX6_readPlace 41 = .ok (.invokestatic 98, 3) := by decide +kernel
theorem dX6_readPlace_44 : decode cX6_readPlace 44 = .ok (.ifCond .ne 5, 3) := by decide +kernel
theorem dX6_readPlace_47 : decode cX6_readPlace 47 = .ok (.iconst 0, 1) := by decide +kernel
theorem dX6_readPlace_48 : decode cX6_readPlace 48 = .ok (.ireturn, 1) := by decide +kernel
theorem dX6_readPlace_49 : decode cX6_readPlace 49 = .ok (.aload_n 0, 1) := by decide +kernel
theorem dX6_readPlace_50 : decode cX6_readPlace 50 = .ok (.dup, 1) := by decide +kernel
theorem dX6_readPlace_51 : decode cX6_readPlace 51 = .ok (.getfield 19, 3) := by decide +kernel
theorem dX6_readPlace_54 : decode cX6_readPlace 54 = .ok (.iconst 1, 1) := by decide +kernel
theorem dX6_readPlace_55 : decode cX6_readPlace 55 = .ok (.iadd, 1) := by decide +kernel
theorem dX6_readPlace_56 : decode cX6_readPlace 56 = .ok (.putfield 19, 3) := by decide +kernel
theorem dX6_readPlace_59 : decode cX6_readPlace 59 = .ok (.iconst 1, 1) := by decide +kernel
theorem dX6_readPlace_60 : decode cX6_readPlace 60 = .ok (.ireturn, 1) := by decide +kernel
def R_X6_readPlace (a2 : Int32) (σ : kS) (x : Int32) (τ : kS) : Prop := Run SX jX6_readPlace [(.ref 1), (.ref 11), (.int a2)] σ (some (.int x)) τ
set_option maxRecDepth 20000 in
theorem t_X6_readPlace {a2 : Int32} {σ : kS} {x : Int32} {τ : kS}  (h : ∃ (x2 : Int32) (s1 : kS), R_X6_take (45 : Int32) σ x2 s1 ∧ ((x2 = 0 → ∃ (x5 : Int32) (s4 : kS), R_X6_peek  s1 x5 s4 ∧ (vp_in a2 5 ∧ (vp_in a2 5 ∧ (((wn ((k_si s4 17 a2.toNatClampNeg (x5 - (48 : Int32))).1 17 a2.toNatClampNeg) (s4.1 11 1)) → x = (1 : Int32) ∧ τ = (k_si (k_si s4 17 a2.toNatClampNeg (x5 - (48 : Int32))) 1 2 ((s4.1 1 2) + (1 : Int32)))) ∧ (¬ (wn ((k_si s4 17 a2.toNatClampNeg (x5 - (48 : Int32))).1 17 a2.toNatClampNeg) (s4.1 11 1)) → x = (0 : Int32) ∧ τ = (k_si s4 17 a2.toNatClampNeg (x5 - (48 : Int32)))))))) ∧ (¬ x2 = 0 → vp_in a2 5 ∧ (x = (1 : Int32) ∧ τ = (k_si s1 17 a2.toNatClampNeg (-1 : Int32)))))) : R_X6_readPlace a2 σ x τ := by
  refine x_run [some (.ref 1), some (.ref 11), some (.int a2)] (by decide +kernel) rfl (Nat.le_of_ble_eq_true rfl) ?_
  refine x_aload_n (pc := 0) 0 dX6_readPlace_0 rfl rfl ?_
  refine x_bipush (pc := 1) (45 : Int32) dX6_readPlace_1 (by decide +kernel) ?_
  obtain ⟨x2, s1, hr, h⟩ := h
  refine x_callV (pc := 3) [(.int (45 : Int32))] [] dX6_readPlace_3 ⟨⟨hX6_take.1, hX6_take.2.1, hX6_take.2.2, by decide⟩, mX6_27, vX6_take.1, vX6_take.2⟩ (ci := 6) rfl rfl rfl rfl (Nat.le_of_ble_eq_true rfl) hr ?_
  refine x_if_eq (pc := 6) 18 dX6_readPlace_6 (by decide) (fun c3 => ?_) (fun c3 => ?_)
  · replace h := h.1 c3
    refine x_aload_n (pc := 18) 1 dX6_readPlace_18 rfl rfl ?_
    refine x_getR (pc := 19) dX6_readPlace_19 fX6_96 rfl rfl ?_
    refine x_iload_n (pc := 22) 2 dX6_readPlace_22 rfl rfl ?_
    refine x_aload_n (pc := 23) 0 dX6_readPlace_23 rfl rfl ?_
    obtain ⟨x5, s4, hr, h⟩ := h
    refine x_callV (pc := 24) [] [(.int a2), (.ref 17)] dX6_readPlace_24 ⟨⟨hX6_peek.1, hX6_peek.2.1, hX6_peek.2.2, by decide⟩, mX6_41, vX6_peek.1, vX6_peek.2⟩ (ci := 6) rfl rfl rfl rfl (Nat.le_of_ble_eq_true rfl) hr ?_
    refine x_bipush (pc := 27) (48 : Int32) dX6_readPlace_27 (by decide +kernel) ?_
    refine x_isub (pc := 29) dX6_readPlace_29 ?_
    obtain ⟨g6, h⟩ := h
    refine x_iastore (pc := 30) (n := 5) dX6_readPlace_30 rfl g6 ?_
    refine x_aload_n (pc := 31) 1 dX6_readPlace_31 rfl rfl ?_
    refine x_getR (pc := 32) dX6_readPlace_32 fX6_96 rfl rfl ?_
    refine x_iload_n (pc := 35) 2 dX6_readPlace_35 rfl rfl ?_
    obtain ⟨g7, h⟩ := h
    refine x_iaload (pc := 36) (n := 5) dX6_readPlace_36 rfl g7 ?_
    refine x_aload_n (pc := 37) 1 dX6_readPlace_37 rfl rfl ?_
    refine x_getI (pc := 38) dX6_readPlace_38 fX6_72 rfl rfl ?_
    refine x_callN (pc := 41) [(.int ((k_si s4 17 a2.toNatClampNeg (x5 - (48 : Int32))).1 17 a2.toNatClampNeg)), (.int (s4.1 11 1))] [] dX6_readPlace_41 ⟨⟨hX8_within.1, hX8_within.2.1, hX8_within.2.2, by decide⟩, ⟨_, List.mem_of_getElem? (i := 0) rfl⟩, sX8_within⟩ rfl rfl (Nat.le_of_ble_eq_true rfl) (i_X8_within) ?_
    refine x_bif_ne (pc := 44) 49 dX6_readPlace_44 (by decide) (fun c8 => ?_) (fun c8 => ?_)
    · replace h := h.1 c8
      refine x_aload_n (pc := 49) 0 dX6_readPlace_49 rfl rfl ?_
      refine x_dup (pc := 50) dX6_readPlace_50 rfl ?_
      refine x_getI (pc := 51) dX6_readPlace_51 fX6_19 rfl rfl ?_
      refine x_iconst (pc := 54) (1 : Int32) dX6_readPlace_54 (by decide +kernel) ?_
      refine x_iadd (pc := 55) dX6_readPlace_55 ?_
      refine x_putI (pc := 56) dX6_readPlace_56 pX6_19 rfl rfl ?_
      refine x_iconst (pc := 59) (1 : Int32) dX6_readPlace_59 (by decide +kernel) ?_
      exact x_zreturn2 (pc := 60) dX6_readPlace_60 rfl rfl h.1 h.2
    · replace h := h.2 c8
      refine x_iconst (pc := 47) (0 : Int32) dX6_readPlace_47 (by decide +kernel) ?_
      exact x_zreturn2 (pc := 48) dX6_readPlace_48 rfl rfl h.1 h.2
  · replace h := h.2 c3
    refine x_aload_n (pc := 9) 1 dX6_readPlace_9 rfl rfl ?_
    refine x_getR (pc := 10) dX6_readPlace_10 fX6_96 rfl rfl ?_
    refine x_iload_n (pc := 13) 2 dX6_readPlace_13 rfl rfl ?_
    refine x_iconst (pc := 14) (-1 : Int32) dX6_readPlace_14 (by decide +kernel) ?_
    obtain ⟨g9, h⟩ := h
    refine x_iastore (pc := 15) (n := 5) dX6_readPlace_15 rfl g9 ?_
    refine x_iconst (pc := 16) (1 : Int32) dX6_readPlace_16 (by decide +kernel) ?_
    exact x_zreturn2 (pc := 17) dX6_readPlace_17 rfl rfl h.1 h.2
theorem dX6_readSingers_0 : decode cX6_readSingers 0 = .ok (.iconst 0, 1) := by decide +kernel
theorem dX6_readSingers_1 : decode cX6_readSingers 1 = .ok (.istore_n 2, 1) := by decide +kernel
theorem dX6_readSingers_2 : decode cX6_readSingers 2 = .ok (.iload_n 2, 1) := by decide +kernel
theorem dX6_readSingers_3 : decode cX6_readSingers 3 = .ok (.iconst 5, 1) := by decide +kernel
theorem dX6_readSingers_4 : decode cX6_readSingers 4 = .ok (.if_icmp .ge 60, 3) := by decide +kernel
theorem dX6_readSingers_7 : decode cX6_readSingers 7 = .ok (.iload_n 2, 1) := by decide +kernel
theorem dX6_readSingers_8 : decode cX6_readSingers 8 = .ok (.ifCond .le 14, 3) := by decide +kernel
theorem dX6_readSingers_11 : decode cX6_readSingers 11 = .ok (.aload_n 0, 1) := by decide +kernel
theorem dX6_readSingers_12 : decode cX6_readSingers 12 = .ok (.bipush 44, 2) := by decide +kernel
theorem dX6_readSingers_14 : decode cX6_readSingers 14 = .ok (.invokevirtual 27, 3) := by decide +kernel
theorem dX6_readSingers_17 : decode cX6_readSingers 17 = .ok (.ifCond .ne 5, 3) := by decide +kernel
theorem dX6_readSingers_20 : decode cX6_readSingers 20 = .ok (.iconst 1, 1) := by decide +kernel
theorem dX6_readSingers_21 : decode cX6_readSingers 21 = .ok (.ireturn, 1) := by decide +kernel
theorem dX6_readSingers_22 : decode cX6_readSingers 22 = .ok (.aload_n 0, 1) := by decide +kernel
theorem dX6_readSingers_23 : decode cX6_readSingers 23 = .ok (.aload_n 1, 1) := by decide +kernel
theorem dX6_readSingers_24 : decode cX6_readSingers 24 = .ok (.iload_n 2, 1) := by decide +kernel
theorem dX6_readSingers_25 : decode cX6_readSingers 25 = .ok (.invokevirtual 75, 3) := by decide +kernel
theorem dX6_readSingers_28 : decode cX6_readSingers 28 = .ok (.ifCond .eq 21, 3) := by decide +kernel
theorem dX6_readSingers_31 : decode cX6_readSingers 31 = .ok (.aload_n 0, 1) := by decide +kernel
theorem dX6_readSingers_32 : decode cX6_readSingers 32 = .ok (.aload_n 1, 1) := by decide +kernel
theorem dX6_readSingers_33 : decode cX6_readSingers 33 = .ok (.iload_n 2, 1) := by decide +kernel
theorem dX6_readSingers_34 : decode cX6_readSingers 34 = .ok (.invokevirtual 78, 3) := by decide +kernel
theorem dX6_readSingers_37 : decode cX6_readSingers 37 = .ok (.ifCond .eq 12, 3) := by decide +kernel
theorem dX6_readSingers_40 : decode cX6_readSingers 40 = .ok (.aload_n 0, 1) := by decide +kernel
theorem dX6_readSingers_41 : decode cX6_readSingers 41 = .ok (.aload_n 1, 1) := by decide +kernel
theorem dX6_readSingers_42 : decode cX6_readSingers 42 = .ok (.iload_n 2, 1) := by decide +kernel
theorem dX6_readSingers_43 : decode cX6_readSingers 43 = .ok (.invokevirtual 81, 3) := by decide +kernel
theorem dX6_readSingers_46 : decode cX6_readSingers 46 = .ok (.ifCond .ne 5, 3) := by decide +kernel
theorem dX6_readSingers_49 : decode cX6_readSingers 49 = .ok (.iconst 0, 1) := by decide +kernel
theorem dX6_readSingers_50 : decode cX6_readSingers 50 = .ok (.ireturn, 1) := by decide +kernel
theorem dX6_readSingers_51 : decode cX6_readSingers 51 = .ok (.aload_n 1, 1) := by decide +kernel
theorem dX6_readSingers_52 : decode cX6_readSingers 52 = .ok (.iload_n 2, 1) := by decide +kernel
theorem dX6_readSingers_53 : decode cX6_readSingers 53 = .ok (.iconst 1, 1) := by decide +kernel
theorem dX6_readSingers_54 : decode cX6_readSingers 54 = .ok (.iadd, 1) := by decide +kernel
theorem dX6_readSingers_55 : decode cX6_readSingers 55 = .ok (.putfield 84, 3) := by decide +kernel
theorem dX6_readSingers_58 : decode cX6_readSingers 58 = .ok (.iinc 2 1, 3) := by decide +kernel
theorem dX6_readSingers_61 : decode cX6_readSingers 61 = .ok (.goto (-59), 3) := by decide +kernel
theorem dX6_readSingers_64 : decode cX6_readSingers 64 = .ok (.iconst 1, 1) := by decide +kernel
theorem dX6_readSingers_65 : decode cX6_readSingers 65 = .ok (.ireturn, 1) := by decide +kernel
def R_X6_readSingers  (σ : kS) (x : Int32) (τ : kS) : Prop := Run SX jX6_readSingers [(.ref 1), (.ref 11)] σ (some (.int x)) τ
def E_X6_readSingers_2 (l2 : Int32) (σ : kS) (x : Int32) (τ : kS) : Prop := Ex SX jX6_readSingers 2 [some (.ref 1), some (.ref 11), some (.int l2)] [] σ (some (.int x)) τ
def E_X6_readSingers_22 (l2 : Int32) (σ : kS) (x : Int32) (τ : kS) : Prop := Ex SX jX6_readSingers 22 [some (.ref 1), some (.ref 11), some (.int l2)] [] σ (some (.int x)) τ
set_option maxRecDepth 20000 in
theorem t_X6_readSingers  {σ : kS} {x : Int32} {τ : kS}  (h : E_X6_readSingers_2 (0 : Int32) σ x τ) : R_X6_readSingers  σ x τ := by
  refine x_run [some (.ref 1), some (.ref 11), none] (by decide +kernel) rfl (Nat.le_of_ble_eq_true rfl) ?_
  refine x_iconst (pc := 0) (0 : Int32) dX6_readSingers_0 (by decide +kernel) ?_
  refine x_istore_n (pc := 1) 2 dX6_readSingers_1 rfl (by decide) rfl ?_
  exact h
set_option maxRecDepth 20000 in
theorem t_X6_readSingers_2 {l2 : Int32} {σ : kS} {x : Int32} {τ : kS}  (h : ((5 : Int32) ≤ l2 → x = (1 : Int32) ∧ τ = σ) ∧ (¬ (5 : Int32) ≤ l2 → (l2 ≤ 0 → E_X6_readSingers_22 l2 σ x τ) ∧ (¬ l2 ≤ 0 → ∃ (x4 : Int32) (s3 : kS), R_X6_take (44 : Int32) σ x4 s3 ∧ ((¬ x4 = 0 → E_X6_readSingers_22 l2 s3 x τ) ∧ (x4 = 0 → x = (1 : Int32) ∧ τ = s3))))) : E_X6_readSingers_2 l2 σ x τ := by
  unfold E_X6_readSingers_2
  refine x_iload_n (pc := 2) 2 dX6_readSingers_2 rfl rfl ?_
  refine x_iconst (pc := 3) (5 : Int32) dX6_readSingers_3 (by decide +kernel) ?_
  refine x_icmp_ge (pc := 4) 64 dX6_readSingers_4 (by decide) (fun c1 => ?_) (fun c1 => ?_)
  · replace h := h.1 c1
    refine x_iconst (pc := 64) (1 : Int32) dX6_readSingers_64 (by decide +kernel) ?_
    exact x_zreturn2 (pc := 65) dX6_readSingers_65 rfl rfl h.1 h.2
  · replace h := h.2 c1
    refine x_iload_n (pc := 7) 2 dX6_readSingers_7 rfl rfl ?_
    refine x_if_le (pc := 8) 22 dX6_readSingers_8 (by decide) (fun c2 => ?_) (fun c2 => ?_)
    · replace h := h.1 c2
      exact h
    · replace h := h.2 c2
      refine x_aload_n (pc := 11) 0 dX6_readSingers_11 rfl rfl ?_
      refine x_bipush (pc := 12) (44 : Int32) dX6_readSingers_12 (by decide +kernel) ?_
      obtain ⟨x4, s3, hr, h⟩ := h
      refine x_callV (pc := 14) [(.int (44 : Int32))] [] dX6_readSingers_14 ⟨⟨hX6_take.1, hX6_take.2.1, hX6_take.2.2, by decide⟩, mX6_27, vX6_take.1, vX6_take.2⟩ (ci := 6) rfl rfl rfl rfl (Nat.le_of_ble_eq_true rfl) hr ?_
      refine x_if_ne (pc := 17) 22 dX6_readSingers_17 (by decide) (fun c5 => ?_) (fun c5 => ?_)
      · replace h := h.1 c5
        exact h
      · replace h := h.2 c5
        refine x_iconst (pc := 20) (1 : Int32) dX6_readSingers_20 (by decide +kernel) ?_
        exact x_zreturn2 (pc := 21) dX6_readSingers_21 rfl rfl h.1 h.2
set_option maxRecDepth 20000 in
theorem t_X6_readSingers_22 {l2 : Int32} {σ : kS} {x : Int32} {τ : kS}  (h : ∃ (x2 : Int32) (s1 : kS), R_X6_readKind l2 σ x2 s1 ∧ ((x2 = 0 → x = (0 : Int32) ∧ τ = s1) ∧ (¬ x2 = 0 → ∃ (x5 : Int32) (s4 : kS), R_X6_readRange l2 s1 x5 s4 ∧ ((x5 = 0 → x = (0 : Int32) ∧ τ = s4) ∧ (¬ x5 = 0 → ∃ (x8 : Int32) (s7 : kS), R_X6_readPlace l2 s4 x8 s7 ∧ ((¬ x8 = 0 → E_X6_readSingers_2 (l2 + (1 : Int32)) (k_si s7 11 2 (l2 + (1 : Int32))) x τ) ∧ (x8 = 0 → x = (0 : Int32) ∧ τ = s7))))))) : E_X6_readSingers_22 l2 σ x τ := by
  unfold E_X6_readSingers_22
  refine x_aload_n (pc := 22) 0 dX6_readSingers_22 rfl rfl ?_
  refine x_aload_n (pc := 23) 1 dX6_readSingers_23 rfl rfl ?_
  refine x_iload_n (pc := 24) 2 dX6_readSingers_24 rfl rfl ?_
  obtain ⟨x2, s1, hr, h⟩ := h
  refine x_callV (pc := 25) [(.ref 11), (.int l2)] [] dX6_readSingers_25 ⟨⟨hX6_readKind.1, hX6_readKind.2.1, hX6_readKind.2.2, by decide⟩, mX6_75, vX6_readKind.1, vX6_readKind.2⟩ (ci := 6) rfl rfl rfl rfl (Nat.le_of_ble_eq_true rfl) hr ?_
  refine x_if_eq (pc := 28) 49 dX6_readSingers_28 (by decide) (fun c3 => ?_) (fun c3 => ?_)
  · replace h := h.1 c3
    refine x_iconst (pc := 49) (0 : Int32) dX6_readSingers_49 (by decide +kernel) ?_
    exact x_zreturn2 (pc := 50) dX6_readSingers_50 rfl rfl h.1 h.2
  · replace h := h.2 c3
    refine x_aload_n (pc := 31) 0 dX6_readSingers_31 rfl rfl ?_
    refine x_aload_n (pc := 32) 1 dX6_readSingers_32 rfl rfl ?_
    refine x_iload_n (pc := 33) 2 dX6_readSingers_33 rfl rfl ?_
    obtain ⟨x5, s4, hr, h⟩ := h
    refine x_callV (pc := 34) [(.ref 11), (.int l2)] [] dX6_readSingers_34 ⟨⟨hX6_readRange.1, hX6_readRange.2.1, hX6_readRange.2.2, by decide⟩, mX6_78, vX6_readRange.1, vX6_readRange.2⟩ (ci := 6) rfl rfl rfl rfl (Nat.le_of_ble_eq_true rfl) hr ?_
    refine x_if_eq (pc := 37) 49 dX6_readSingers_37 (by decide) (fun c6 => ?_) (fun c6 => ?_)
    · replace h := h.1 c6
      refine x_iconst (pc := 49) (0 : Int32) dX6_readSingers_49 (by decide +kernel) ?_
      exact x_zreturn2 (pc := 50) dX6_readSingers_50 rfl rfl h.1 h.2
    · replace h := h.2 c6
      refine x_aload_n (pc := 40) 0 dX6_readSingers_40 rfl rfl ?_
      refine x_aload_n (pc := 41) 1 dX6_readSingers_41 rfl rfl ?_
      refine x_iload_n (pc := 42) 2 dX6_readSingers_42 rfl rfl ?_
      obtain ⟨x8, s7, hr, h⟩ := h
      refine x_callV (pc := 43) [(.ref 11), (.int l2)] [] dX6_readSingers_43 ⟨⟨hX6_readPlace.1, hX6_readPlace.2.1, hX6_readPlace.2.2, by decide⟩, mX6_81, vX6_readPlace.1, vX6_readPlace.2⟩ (ci := 6) rfl rfl rfl rfl (Nat.le_of_ble_eq_true rfl) hr ?_
      refine x_if_ne (pc := 46) 51 dX6_readSingers_46 (by decide) (fun c9 => ?_) (fun c9 => ?_)
      · replace h := h.1 c9
        refine x_aload_n (pc := 51) 1 dX6_readSingers_51 rfl rfl ?_
        refine x_iload_n (pc := 52) 2 dX6_readSingers_52 rfl rfl ?_
        refine x_iconst (pc := 53) (1 : Int32) dX6_readSingers_53 (by decide +kernel) ?_
        refine x_iadd (pc := 54) dX6_readSingers_54 ?_
        refine x_putI (pc := 55) dX6_readSingers_55 pX6_84 rfl rfl ?_
        refine x_iinc (pc := 58) (1 : Int32) dX6_readSingers_58 (by decide) rfl rfl (by decide +kernel) ?_
        refine x_goto (pc := 61) 2 dX6_readSingers_61 (by decide) ?_
        exact h
      · replace h := h.2 c9
        refine x_iconst (pc := 49) (0 : Int32) dX6_readSingers_49 (by decide +kernel) ?_
        exact x_zreturn2 (pc := 50) dX6_readSingers_50 rfl rfl h.1 h.2
theorem dX6_readValley_0 : decode cX6_readValley 0 = .ok (.aload_n 0, 1) := by decide +kernel
theorem dX6_readValley_1 : decode cX6_readValley 1 = .ok (.iconst 0, 1) := by decide +kernel
theorem dX6_readValley_2 : decode cX6_readValley 2 = .ok (.putfield 19, 3) := by decide +kernel
theorem dX6_readValley_5 : decode cX6_readValley 5 = .ok (.aload_n 1, 1) := by decide +kernel
theorem dX6_readValley_6 : decode cX6_readValley 6 = .ok (.invokevirtual 22, 3) := by decide +kernel
theorem dX6_readValley_9 : decode cX6_readValley 9 = .ok (.aload_n 0, 1) := by decide +kernel
theorem dX6_readValley_10 : decode cX6_readValley 10 = .ok (.bipush 109, 2) := by decide +kernel
theorem dX6_readValley_12 : decode cX6_readValley 12 = .ok (.invokevirtual 27, 3) := by decide +kernel
theorem dX6_readValley_15 : decode cX6_readValley 15 = .ok (.ifCond .eq 60, 3) := by decide +kernel
theorem dX6_readValley_18 : decode cX6_readValley 18 = .ok (.aload_n 0, 1) := by decide +kernel
theorem dX6_readValley_19 : decode cX6_readValley 19 = .ok (.aload_n 1, 1) := by decide +kernel
theorem dX6_readValley_20 : decode cX6_readValley 20 = .ok (.invokevirtual 31, 3) := by decide +kernel
theorem dX6_readValley_23 : decode cX6_readValley 23 = .ok (.ifCond .eq 52, 3) := by decide +kernel
theorem dX6_readValley_26 : decode cX6_readValley 26 = .ok (.aload_n 0, 1) := by decide +kernel
theorem dX6_readValley_27 : decode cX6_readValley 27 = .ok (.bipush 59, 2) := by decide +kernel
theorem dX6_readValley_29 : decode cX6_readValley 29 = .ok (.invokevirtual 27, 3) := by decide +kernel
theorem dX6_readValley_32 : decode cX6_readValley 32 = .ok (.ifCond .eq 43, 3) := by decide +kernel
theorem dX6_readValley_35 : decode cX6_readValley 35 = .ok (.aload_n 0, 1) := by decide +kernel
theorem dX6_readValley_36 : decode cX6_readValley 36 = .ok (.aload_n 1, 1) := by decide +kernel
theorem dX6_readValley_37 : decode cX6_readValley 37 = .ok (.invokevirtual 35, 3) := by decide +kernel
theorem dX6_readValley_40 : decode cX6_readValley 40 = .ok (.ifCond .eq 35, 3) := by decide +kernel
theorem dX6_readValley_43 : decode cX6_readValley 43 = .ok (.aload_n 0, 1) := by decide +kernel
theorem dX6_readValley_44 : decode cX6_readValley 44 = .ok (.bipush 59, 2) := by decide +kernel
theorem dX6_readValley_46 : decode cX6_readValley 46 = .ok (.invokevirtual 27, 3) := by decide +kernel
theorem dX6_readValley_49 : decode cX6_readValley 49 = .ok (.ifCond .eq 26, 3) := by decide +kernel
theorem dX6_readValley_52 : decode cX6_readValley 52 = .ok (.aload_n 0, 1) := by decide +kernel
theorem dX6_readValley_53 : decode cX6_readValley 53 = .ok (.aload_n 1, 1) := by decide +kernel
theorem dX6_readValley_54 : decode cX6_readValley 54 = .ok (.invokevirtual 38, 3) := by decide +kernel
theorem dX6_readValley_57 : decode cX6_readValley 57 = .ok (.ifCond .eq 18, 3) := by decide +kernel
theorem dX6_readValley_60 : decode cX6_readValley 60 = .ok (.aload_n 0, 1) := by decide +kernel
theorem dX6_readValley_61 : decode cX6_readValley 61 = .ok (.getfield 19, 3) := by decide +kernel
theorem dX6_readValley_64 : decode cX6_readValley 64 = .ok (.aload_n 0, 1) := by decide +kernel
theorem dX6_readValley_65 : decode cX6_readValley 65 = .ok (.getfield 15, 3) := by decide +kernel
theorem dX6_readValley_68 : decode cX6_readValley 68 = .ok (.if_icmp .ne 7, 3) := by decide +kernel
theorem dX6_readValley_71 : decode cX6_readValley 71 = .ok (.iconst 1, 1) := by decide +kernel
theorem dX6_readValley_72 : decode cX6_readValley 72 = .ok (.goto 4, 3) := by decide +kernel
theorem dX6_readValley_75 : decode cX6_readValley 75 = .ok (.iconst 0, 1) := by decide +kernel
theorem dX6_readValley_76 : decode cX6_readValley 76 = .ok (.ireturn, 1) := by decide +kernel
def R_X6_readValley  (σ : kS) (x : Int32) (τ : kS) : Prop := Run SX jX6_readValley [(.ref 1), (.ref 11)] σ (some (.int x)) τ
set_option maxRecDepth 20000 in
theorem t_X6_readValley  {σ : kS} {x : Int32} {τ : kS}  (h : ∃ s1 : kS, R_X7_clear 11 (k_si σ 1 2 (0 : Int32)) s1 ∧ (∃ (x3 : Int32) (s2 : kS), R_X6_take (109 : Int32) s1 x3 s2 ∧ ((x3 = 0 → x = (0 : Int32) ∧ τ = s2) ∧ (¬ x3 = 0 → ∃ (x6 : Int32) (s5 : kS), R_X6_readShapes  s2 x6 s5 ∧ ((x6 = 0 → x = (0 : Int32) ∧ τ = s5) ∧ (¬ x6 = 0 → ∃ (x9 : Int32) (s8 : kS), R_X6_take (59 : Int32) s5 x9 s8 ∧ ((x9 = 0 → x = (0 : Int32) ∧ τ = s8) ∧ (¬ x9 = 0 → ∃ (x12 : Int32) (s11 : kS), R_X6_readFields  s8 x12 s11 ∧ ((x12 = 0 → x = (0 : Int32) ∧ τ = s11) ∧ (¬ x12 = 0 → ∃ (x15 : Int32) (s14 : kS), R_X6_take (59 : Int32) s11 x15 s14 ∧ ((x15 = 0 → x = (0 : Int32) ∧ τ = s14) ∧ (¬ x15 = 0 → ∃ (x18 : Int32) (s17 : kS), R_X6_readSingers  s14 x18 s17 ∧ ((x18 = 0 → x = (0 : Int32) ∧ τ = s17) ∧ (¬ x18 = 0 → (¬ (s17.1 1 2) = (s17.1 1 1) → x = (0 : Int32) ∧ τ = s17) ∧ ((s17.1 1 2) = (s17.1 1 1) → x = (1 : Int32) ∧ τ = s17))))))))))))))) : R_X6_readValley  σ x τ := by
  refine x_run [some (.ref 1), some (.ref 11)] (by decide +kernel) rfl (Nat.le_of_ble_eq_true rfl) ?_
  refine x_aload_n (pc := 0) 0 dX6_readValley_0 rfl rfl ?_
  refine x_iconst (pc := 1) (0 : Int32) dX6_readValley_1 (by decide +kernel) ?_
  refine x_putI (pc := 2) dX6_readValley_2 pX6_19 rfl rfl ?_
  refine x_aload_n (pc := 5) 1 dX6_readValley_5 rfl rfl ?_
  obtain ⟨s1, hr, h⟩ := h
  refine x_callV (pc := 6) [] [] dX6_readValley_6 ⟨⟨hX7_clear.1, hX7_clear.2.1, hX7_clear.2.2, by decide⟩, mX6_22, vX7_clear.1, vX7_clear.2⟩ (ci := 7) rfl rfl rfl rfl (Nat.le_of_ble_eq_true rfl) hr ?_
  refine x_aload_n (pc := 9) 0 dX6_readValley_9 rfl rfl ?_
  refine x_bipush (pc := 10) (109 : Int32) dX6_readValley_10 (by decide +kernel) ?_
  obtain ⟨x3, s2, hr, h⟩ := h
  refine x_callV (pc := 12) [(.int (109 : Int32))] [] dX6_readValley_12 ⟨⟨hX6_take.1, hX6_take.2.1, hX6_take.2.2, by decide⟩, mX6_27, vX6_take.1, vX6_take.2⟩ (ci := 6) rfl rfl rfl rfl (Nat.le_of_ble_eq_true rfl) hr ?_
  refine x_if_eq (pc := 15) 75 dX6_readValley_15 (by decide) (fun c4 => ?_) (fun c4 => ?_)
  · replace h := h.1 c4
    refine x_iconst (pc := 75) (0 : Int32) dX6_readValley_75 (by decide +kernel) ?_
    exact x_zreturn2 (pc := 76) dX6_readValley_76 rfl rfl h.1 h.2
  · replace h := h.2 c4
    refine x_aload_n (pc := 18) 0 dX6_readValley_18 rfl rfl ?_
    refine x_aload_n (pc := 19) 1 dX6_readValley_19 rfl rfl ?_
    obtain ⟨x6, s5, hr, h⟩ := h
    refine x_callV (pc := 20) [(.ref 11)] [] dX6_readValley_20 ⟨⟨hX6_readShapes.1, hX6_readShapes.2.1, hX6_readShapes.2.2, by decide⟩, mX6_31, vX6_readShapes.1, vX6_readShapes.2⟩ (ci := 6) rfl rfl rfl rfl (Nat.le_of_ble_eq_true rfl) hr ?_
    refine x_if_eq (pc := 23) 75 dX6_readValley_23 (by decide) (fun c7 => ?_) (fun c7 => ?_)
    · replace h := h.1 c7
      refine x_iconst (pc := 75) (0 : Int32) dX6_readValley_75 (by decide +kernel) ?_
      exact x_zreturn2 (pc := 76) dX6_readValley_76 rfl rfl h.1 h.2
    · replace h := h.2 c7
      refine x_aload_n (pc := 26) 0 dX6_readValley_26 rfl rfl ?_
      refine x_bipush (pc := 27) (59 : Int32) dX6_readValley_27 (by decide +kernel) ?_
      obtain ⟨x9, s8, hr, h⟩ := h
      refine x_callV (pc := 29) [(.int (59 : Int32))] [] dX6_readValley_29 ⟨⟨hX6_take.1, hX6_take.2.1, hX6_take.2.2, by decide⟩, mX6_27, vX6_take.1, vX6_take.2⟩ (ci := 6) rfl rfl rfl rfl (Nat.le_of_ble_eq_true rfl) hr ?_
      refine x_if_eq (pc := 32) 75 dX6_readValley_32 (by decide) (fun c10 => ?_) (fun c10 => ?_)
      · replace h := h.1 c10
        refine x_iconst (pc := 75) (0 : Int32) dX6_readValley_75 (by decide +kernel) ?_
        exact x_zreturn2 (pc := 76) dX6_readValley_76 rfl rfl h.1 h.2
      · replace h := h.2 c10
        refine x_aload_n (pc := 35) 0 dX6_readValley_35 rfl rfl ?_
        refine x_aload_n (pc := 36) 1 dX6_readValley_36 rfl rfl ?_
        obtain ⟨x12, s11, hr, h⟩ := h
        refine x_callV (pc := 37) [(.ref 11)] [] dX6_readValley_37 ⟨⟨hX6_readFields.1, hX6_readFields.2.1, hX6_readFields.2.2, by decide⟩, mX6_35, vX6_readFields.1, vX6_readFields.2⟩ (ci := 6) rfl rfl rfl rfl (Nat.le_of_ble_eq_true rfl) hr ?_
        refine x_if_eq (pc := 40) 75 dX6_readValley_40 (by decide) (fun c13 => ?_) (fun c13 => ?_)
        · replace h := h.1 c13
          refine x_iconst (pc := 75) (0 : Int32) dX6_readValley_75 (by decide +kernel) ?_
          exact x_zreturn2 (pc := 76) dX6_readValley_76 rfl rfl h.1 h.2
        · replace h := h.2 c13
          refine x_aload_n (pc := 43) 0 dX6_readValley_43 rfl rfl ?_
          refine x_bipush (pc := 44) (59 : Int32) dX6_readValley_44 (by decide +kernel) ?_
          obtain ⟨x15, s14, hr, h⟩ := h
          refine x_callV (pc := 46) [(.int (59 : Int32))] [] dX6_readValley_46 ⟨⟨hX6_take.1, hX6_take.2.1, hX6_take.2.2, by decide⟩, mX6_27, vX6_take.1, vX6_take.2⟩ (ci := 6) rfl rfl rfl rfl (Nat.le_of_ble_eq_true rfl) hr ?_
          refine x_if_eq (pc := 49) 75 dX6_readValley_49 (by decide) (fun c16 => ?_) (fun c16 => ?_)
          · replace h := h.1 c16
            refine x_iconst (pc := 75) (0 : Int32) dX6_readValley_75 (by decide +kernel) ?_
            exact x_zreturn2 (pc := 76) dX6_readValley_76 rfl rfl h.1 h.2
          · replace h := h.2 c16
            refine x_aload_n (pc := 52) 0 dX6_readValley_52 rfl rfl ?_
            refine x_aload_n (pc := 53) 1 dX6_readValley_53 rfl rfl ?_
            obtain ⟨x18, s17, hr, h⟩ := h
            refine x_callV (pc := 54) [(.ref 11)] [] dX6_readValley_54 ⟨⟨hX6_readSingers.1, hX6_readSingers.2.1, hX6_readSingers.2.2, by decide⟩, mX6_38, vX6_readSingers.1, vX6_readSingers.2⟩ (ci := 6) rfl rfl rfl rfl (Nat.le_of_ble_eq_true rfl) hr ?_
            refine x_if_eq (pc := 57) 75 dX6_readValley_57 (by decide) (fun c19 => ?_) (fun c19 => ?_)
            · replace h := h.1 c19
              refine x_iconst (pc := 75) (0 : Int32) dX6_readValley_75 (by decide +kernel) ?_
              exact x_zreturn2 (pc := 76) dX6_readValley_76 rfl rfl h.1 h.2
            · replace h := h.2 c19
              refine x_aload_n (pc := 60) 0 dX6_readValley_60 rfl rfl ?_
              refine x_getI (pc := 61) dX6_readValley_61 fX6_19 rfl rfl ?_
              refine x_aload_n (pc := 64) 0 dX6_readValley_64 rfl rfl ?_
              refine x_getI (pc := 65) dX6_readValley_65 fX6_15 rfl rfl ?_
              refine x_icmp_ne (pc := 68) 75 dX6_readValley_68 (by decide) (fun c20 => ?_) (fun c20 => ?_)
              · replace h := h.1 c20
                refine x_iconst (pc := 75) (0 : Int32) dX6_readValley_75 (by decide +kernel) ?_
                exact x_zreturn2 (pc := 76) dX6_readValley_76 rfl rfl h.1 h.2
              · replace h := h.2 c20
                refine x_iconst (pc := 71) (1 : Int32) dX6_readValley_71 (by decide +kernel) ?_
                refine x_goto (pc := 72) 76 dX6_readValley_72 (by decide) ?_
                exact x_zreturn2 (pc := 76) dX6_readValley_76 rfl rfl h.1 h.2
theorem dX7_become_0 : decode cX7_become 0 = .ok (.aload_n 0, 1) := by decide +kernel
theorem dX7_become_1 : decode cX7_become 1 = .ok (.aload_n 1, 1) := by decide +kernel
theorem dX7_become_2 : decode cX7_become 2 = .ok (.getfield 40, 3) := by decide +kernel
theorem dX7_become_5 : decode cX7_become 5 = .ok (.putfield 40, 3) := by decide +kernel
theorem dX7_become_8 : decode cX7_become 8 = .ok (.aload_n 0, 1) := by decide +kernel
theorem dX7_become_9 : decode cX7_become 9 = .ok (.aload_n 1, 1) := by decide +kernel
theorem dX7_become_10 : decode cX7_become 10 = .ok (.getfield 33, 3) := by decide +kernel
theorem dX7_become_13 : decode cX7_become 13 = .ok (.putfield 33, 3) := by decide +kernel
theorem dX7_become_16 : decode cX7_become 16 = .ok (.aload_n 0, 1) := by decide +kernel
theorem dX7_become_17 : decode cX7_become 17 = .ok (.aload_n 1, 1) := by decide +kernel
theorem dX7_become_18 : decode cX7_become 18 = .ok (.getfield 37, 3) := by decide +kernel
theorem dX7_become_21 : decode cX7_become 21 = .ok (.putfield 37, 3) := by decide +kernel
theorem dX7_become_24 : decode cX7_become 24 = .ok (.aload_n 0, 1) := by decide +kernel
theorem dX7_become_25 : decode cX7_become 25 = .ok (.aload_n 1, 1) := by decide +kernel
theorem dX7_become_26 : decode cX7_become 26 = .ok (.getfield 43, 3) := by decide +kernel
theorem dX7_become_29 : decode cX7_become 29 = .ok (.putfield 43, 3) := by decide +kernel
theorem dX7_become_32 : decode cX7_become 32 = .ok (.aload_n 1, 1) := by decide +kernel
theorem dX7_become_33 : decode cX7_become 33 = .ok (.getfield 9, 3) := by decide +kernel
theorem dX7_become_36 : decode cX7_become 36 = .ok (.iconst 0, 1) := by decide +kernel
theorem dX7_become_37 : decode cX7_become 37 = .ok (.aload_n 0, 1) := by decide +kernel
theorem dX7_become_38 : decode cX7_become 38 = .ok (.getfield 9, 3) := by decide +kernel
theorem dX7_become_41 : decode cX7_become 41 = .ok (.iconst 0, 1) := by decide +kernel
theorem dX7_become_42 : decode cX7_become 42 = .ok (.iconst 4, 1) := by decide +kernel
theorem dX7_become_43 : decode cX7_become 43 = .ok (.invokestatic 52, 3) := by decide +kernel
theorem dX7_become_46 : decode cX7_become 46 = .ok (.aload_n 1, 1) := by decide +kernel
theorem dX7_become_47 : decode cX7_become 47 = .ok (.getfield 15, 3) := by decide +kernel
theorem dX7_become_50 : decode cX7_become 50 = .ok (.iconst 0, 1) := by decide +kernel
theorem dX7_become_51 : decode cX7_become 51 = .ok (.aload_n 0, 1) := by decide +kernel
theorem dX7_become_52 : decode cX7_become 52 = .ok (.getfield 15, 3) := by decide +kernel
theorem dX7_become_55 : decode cX7_become 55 = .ok (.iconst 0, 1) := by decide +kernel
theorem dX7_become_56 : decode cX7_become 56 = .ok (.iconst 5, 1) := by decide +kernel
theorem dX7_become_57 : decode cX7_become 57 = .ok (.invokestatic 52, 3) := by decide +kernel
theorem dX7_become_60 : decode cX7_become 60 = .ok (.aload_n 1, 1) := by decide +kernel
theorem dX7_become_61 : decode cX7_become 61 = .ok (.getfield 18, 3) := by decide +kernel
theorem dX7_become_64 : decode cX7_become 64 = .ok (.iconst 0, 1) := by decide +kernel
theorem dX7_become_65 : decode cX7_become 65 = .ok (.aload_n 0, 1) := by decide +kernel
theorem dX7_become_66 : decode cX7_become 66 = .ok (.getfield 18, 3) := by decide +kernel
theorem dX7_become_69 : decode cX7_become 69 = .ok (.iconst 0, 1) := by decide +kernel
theorem dX7_become_70 : decode cX7_become 70 = .ok (.iconst 5, 1) := by decide +kernel
theorem dX7_become_71 : decode cX7_become 71 = .ok (.invokestatic 52, 3) := by decide +kernel
theorem dX7_become_74 : decode cX7_become 74 = .ok (.aload_n 1, 1) := by decide +kernel
theorem dX7_become_75 : decode cX7_become 75 = .ok (.getfield 21, 3) := by decide +kernel
theorem dX7_become_78 : decode cX7_become 78 = .ok (.iconst 0, 1) := by decide +kernel
theorem dX7_become_79 : decode cX7_become 79 = .ok (.aload_n 0, 1) := by decide +kernel
theorem dX7_become_80 : decode cX7_become 80 = .ok (.getfield 21, 3) := by decide +kernel
theorem dX7_become_83 : decode cX7_become 83 = .ok (.iconst 0, 1) := by decide +kernel
theorem dX7_become_84 : decode cX7_become 84 = .ok (.iconst 5, 1) := by decide +kernel
theorem dX7_become_85 : decode cX7_become 85 = .ok (.invokestatic 52, 3) := by decide +kernel
theorem dX7_become_88 : decode cX7_become 88 = .ok (.aload_n 1, 1) := by decide +kernel
theorem dX7_become_89 : decode cX7_become 89 = .ok (.getfield 24, 3) := by decide +kernel
theorem dX7_become_92 : decode cX7_become 92 = .ok (.iconst 0, 1) := by decide +kernel
theorem dX7_become_93 : decode cX7_become 93 = .ok (.aload_n 0, 1) := by decide +kernel
theorem dX7_become_94 : decode cX7_become 94 = .ok (.getfield 24, 3) := by decide +kernel
theorem dX7_become_97 : decode cX7_become 97 = .ok (.iconst 0, 1) := by decide +kernel
theorem dX7_become_98 : decode cX7_become 98 = .ok (.iconst 5, 1) := by decide +kernel
theorem dX7_become_99 : decode cX7_become 99 = .ok (.invokestatic 52, 3) := by decide +kernel
theorem dX7_become_102 : decode cX7_become 102 = .ok (.aload_n 1, 1) := by decide +kernel
theorem dX7_become_103 : decode cX7_become 103 = .ok (.getfield 27, 3) := by decide +kernel
theorem dX7_become_106 : decode cX7_become 106 = .ok (.iconst 0, 1) := by decide +kernel
theorem dX7_become_107 : decode cX7_become 107 = .ok (.aload_n 0, 1) := by decide +kernel
theorem dX7_become_108 : decode cX7_become 108 = .ok (.getfield 27, 3) := by decide +kernel
theorem dX7_become_111 : decode cX7_become 111 = .ok (.iconst 0, 1) := by decide +kernel
theorem dX7_become_112 : decode cX7_become 112 = .ok (.iconst 5, 1) := by decide +kernel
theorem dX7_become_113 : decode cX7_become 113 = .ok (.invokestatic 52, 3) := by decide +kernel
theorem dX7_become_116 : decode cX7_become 116 = .ok (.aload_n 1, 1) := by decide +kernel
theorem dX7_become_117 : decode cX7_become 117 = .ok (.getfield 30, 3) := by decide +kernel
theorem dX7_become_120 : decode cX7_become 120 = .ok (.iconst 0, 1) := by decide +kernel
theorem dX7_become_121 : decode cX7_become 121 = .ok (.aload_n 0, 1) := by decide +kernel
theorem dX7_become_122 : decode cX7_become 122 = .ok (.getfield 30, 3) := by decide +kernel
theorem dX7_become_125 : decode cX7_become 125 = .ok (.iconst 0, 1) := by decide +kernel
theorem dX7_become_126 : decode cX7_become 126 = .ok (.iconst 5, 1) := by decide +kernel
theorem dX7_become_127 : decode cX7_become 127 = .ok (.invokestatic 52, 3) := by decide +kernel
theorem dX7_become_130 : decode cX7_become 130 = .ok (.return_, 1) := by decide +kernel
def R_X7_become (v : Nat) (w : Nat) (σ : kS) (τ : kS) : Prop := Run SX jX7_become [(.ref v), (.ref w)] σ none τ
set_option maxRecDepth 20000 in
theorem t_X7_become {v : Nat} {w : Nat} {σ : kS} {τ : kS} (hv : k_vly v = true) (hw : k_vly w = true) (h : τ = (k_cp (k_cp (k_cp (k_cp (k_cp (k_cp (k_cp (k_si (k_si (k_si (k_si σ v 0 (σ.1 w 0)) v 1 ((k_si σ v 0 (σ.1 w 0)).1 w 1)) v 2 ((k_si (k_si σ v 0 (σ.1 w 0)) v 1 ((k_si σ v 0 (σ.1 w 0)).1 w 1)).1 w 2)) v 3 ((k_si (k_si (k_si σ v 0 (σ.1 w 0)) v 1 ((k_si σ v 0 (σ.1 w 0)).1 w 1)) v 2 ((k_si (k_si σ v 0 (σ.1 w 0)) v 1 ((k_si σ v 0 (σ.1 w 0)).1 w 1)).1 w 2)).1 w 3)) (w + 1) (v + 1) 0 0 4) (w + 2) (v + 2) 0 0 5) (w + 3) (v + 3) 0 0 5) (w + 4) (v + 4) 0 0 5) (w + 5) (v + 5) 0 0 5) (w + 6) (v + 6) 0 0 5) (w + 7) (v + 7) 0 0 5)) : R_X7_become v w σ τ := by
  refine x_run [some (.ref v), some (.ref w)] (by decide +kernel) rfl (Nat.le_of_ble_eq_true rfl) ?_
  refine x_aload_n (pc := 0) 0 dX7_become_0 rfl rfl ?_
  refine x_aload_n (pc := 1) 1 dX7_become_1 rfl rfl ?_
  refine x_getI (pc := 2) dX7_become_2 fX7_40 (vl_is hw) (vl_i0 hw) ?_
  refine x_putI (pc := 5) dX7_become_5 pX7_40 (vl_is hv) (vl_i0 hv) ?_
  refine x_aload_n (pc := 8) 0 dX7_become_8 rfl rfl ?_
  refine x_aload_n (pc := 9) 1 dX7_become_9 rfl rfl ?_
  refine x_getI (pc := 10) dX7_become_10 fX7_33 (vl_is hw) (vl_i1 hw) ?_
  refine x_putI (pc := 13) dX7_become_13 pX7_33 (vl_is hv) (vl_i1 hv) ?_
  refine x_aload_n (pc := 16) 0 dX7_become_16 rfl rfl ?_
  refine x_aload_n (pc := 17) 1 dX7_become_17 rfl rfl ?_
  refine x_getI (pc := 18) dX7_become_18 fX7_37 (vl_is hw) (vl_i2 hw) ?_
  refine x_putI (pc := 21) dX7_become_21 pX7_37 (vl_is hv) (vl_i2 hv) ?_
  refine x_aload_n (pc := 24) 0 dX7_become_24 rfl rfl ?_
  refine x_aload_n (pc := 25) 1 dX7_become_25 rfl rfl ?_
  refine x_getI (pc := 26) dX7_become_26 fX7_43 (vl_is hw) (vl_i3 hw) ?_
  refine x_putI (pc := 29) dX7_become_29 pX7_43 (vl_is hv) (vl_i3 hv) ?_
  refine x_aload_n (pc := 32) 1 dX7_become_32 rfl rfl ?_
  refine x_getR (pc := 33) dX7_become_33 fX7_9 (vl_is hw) (vl_r4 hw) ?_
  refine x_iconst (pc := 36) (0 : Int32) dX7_become_36 (by decide +kernel) ?_
  refine x_aload_n (pc := 37) 0 dX7_become_37 rfl rfl ?_
  refine x_getR (pc := 38) dX7_become_38 fX7_9 (vl_is hv) (vl_r4 hv) ?_
  refine x_iconst (pc := 41) (0 : Int32) dX7_become_41 (by decide +kernel) ?_
  refine x_iconst (pc := 42) (4 : Int32) dX7_become_42 (by decide +kernel) ?_
  refine x_copyiK (pc := 43) (n0 := 4) (n1 := 4) 0 0 4 dX7_become_43 acX7_52 (vl_a4 hw) (vl_a4 hv) (by decide +kernel) (by decide +kernel) (by decide +kernel) ?_
  refine x_aload_n (pc := 46) 1 dX7_become_46 rfl rfl ?_
  refine x_getR (pc := 47) dX7_become_47 fX7_15 (vl_is hw) (vl_r5 hw) ?_
  refine x_iconst (pc := 50) (0 : Int32) dX7_become_50 (by decide +kernel) ?_
  refine x_aload_n (pc := 51) 0 dX7_become_51 rfl rfl ?_
  refine x_getR (pc := 52) dX7_become_52 fX7_15 (vl_is hv) (vl_r5 hv) ?_
  refine x_iconst (pc := 55) (0 : Int32) dX7_become_55 (by decide +kernel) ?_
  refine x_iconst (pc := 56) (5 : Int32) dX7_become_56 (by decide +kernel) ?_
  refine x_copyiK (pc := 57) (n0 := 5) (n1 := 5) 0 0 5 dX7_become_57 acX7_52 (vl_a5 hw) (vl_a5 hv) (by decide +kernel) (by decide +kernel) (by decide +kernel) ?_
  refine x_aload_n (pc := 60) 1 dX7_become_60 rfl rfl ?_
  refine x_getR (pc := 61) dX7_become_61 fX7_18 (vl_is hw) (vl_r6 hw) ?_
  refine x_iconst (pc := 64) (0 : Int32) dX7_become_64 (by decide +kernel) ?_
  refine x_aload_n (pc := 65) 0 dX7_become_65 rfl rfl ?_
  refine x_getR (pc := 66) dX7_become_66 fX7_18 (vl_is hv) (vl_r6 hv) ?_
  refine x_iconst (pc := 69) (0 : Int32) dX7_become_69 (by decide +kernel) ?_
  refine x_iconst (pc := 70) (5 : Int32) dX7_become_70 (by decide +kernel) ?_
  refine x_copyiK (pc := 71) (n0 := 5) (n1 := 5) 0 0 5 dX7_become_71 acX7_52 (vl_a6 hw) (vl_a6 hv) (by decide +kernel) (by decide +kernel) (by decide +kernel) ?_
  refine x_aload_n (pc := 74) 1 dX7_become_74 rfl rfl ?_
  refine x_getR (pc := 75) dX7_become_75 fX7_21 (vl_is hw) (vl_r7 hw) ?_
  refine x_iconst (pc := 78) (0 : Int32) dX7_become_78 (by decide +kernel) ?_
  refine x_aload_n (pc := 79) 0 dX7_become_79 rfl rfl ?_
  refine x_getR (pc := 80) dX7_become_80 fX7_21 (vl_is hv) (vl_r7 hv) ?_
  refine x_iconst (pc := 83) (0 : Int32) dX7_become_83 (by decide +kernel) ?_
  refine x_iconst (pc := 84) (5 : Int32) dX7_become_84 (by decide +kernel) ?_
  refine x_copyiK (pc := 85) (n0 := 5) (n1 := 5) 0 0 5 dX7_become_85 acX7_52 (vl_a7 hw) (vl_a7 hv) (by decide +kernel) (by decide +kernel) (by decide +kernel) ?_
  refine x_aload_n (pc := 88) 1 dX7_become_88 rfl rfl ?_
  refine x_getR (pc := 89) dX7_become_89 fX7_24 (vl_is hw) (vl_r8 hw) ?_
  refine x_iconst (pc := 92) (0 : Int32) dX7_become_92 (by decide +kernel) ?_
  refine x_aload_n (pc := 93) 0 dX7_become_93 rfl rfl ?_
  refine x_getR (pc := 94) dX7_become_94 fX7_24 (vl_is hv) (vl_r8 hv) ?_
  refine x_iconst (pc := 97) (0 : Int32) dX7_become_97 (by decide +kernel) ?_
  refine x_iconst (pc := 98) (5 : Int32) dX7_become_98 (by decide +kernel) ?_
  refine x_copyiK (pc := 99) (n0 := 5) (n1 := 5) 0 0 5 dX7_become_99 acX7_52 (vl_a8 hw) (vl_a8 hv) (by decide +kernel) (by decide +kernel) (by decide +kernel) ?_
  refine x_aload_n (pc := 102) 1 dX7_become_102 rfl rfl ?_
  refine x_getR (pc := 103) dX7_become_103 fX7_27 (vl_is hw) (vl_r9 hw) ?_
  refine x_iconst (pc := 106) (0 : Int32) dX7_become_106 (by decide +kernel) ?_
  refine x_aload_n (pc := 107) 0 dX7_become_107 rfl rfl ?_
  refine x_getR (pc := 108) dX7_become_108 fX7_27 (vl_is hv) (vl_r9 hv) ?_
  refine x_iconst (pc := 111) (0 : Int32) dX7_become_111 (by decide +kernel) ?_
  refine x_iconst (pc := 112) (5 : Int32) dX7_become_112 (by decide +kernel) ?_
  refine x_copyiK (pc := 113) (n0 := 5) (n1 := 5) 0 0 5 dX7_become_113 acX7_52 (vl_a9 hw) (vl_a9 hv) (by decide +kernel) (by decide +kernel) (by decide +kernel) ?_
  refine x_aload_n (pc := 116) 1 dX7_become_116 rfl rfl ?_
  refine x_getR (pc := 117) dX7_become_117 fX7_30 (vl_is hw) (vl_r10 hw) ?_
  refine x_iconst (pc := 120) (0 : Int32) dX7_become_120 (by decide +kernel) ?_
  refine x_aload_n (pc := 121) 0 dX7_become_121 rfl rfl ?_
  refine x_getR (pc := 122) dX7_become_122 fX7_30 (vl_is hv) (vl_r10 hv) ?_
  refine x_iconst (pc := 125) (0 : Int32) dX7_become_125 (by decide +kernel) ?_
  refine x_iconst (pc := 126) (5 : Int32) dX7_become_126 (by decide +kernel) ?_
  refine x_copyiK (pc := 127) (n0 := 5) (n1 := 5) 0 0 5 dX7_become_127 acX7_52 (vl_a10 hw) (vl_a10 hv) (by decide +kernel) (by decide +kernel) (by decide +kernel) ?_
  exact x_return2 (pc := 130) dX7_become_130 rfl h
theorem dX7_disturb_0 : decode cX7_disturb 0 = .ok (.aload_n 0, 1) := by decide +kernel
theorem dX7_disturb_1 : decode cX7_disturb 1 = .ok (.invokevirtual 58, 3) := by decide +kernel
theorem dX7_disturb_4 : decode cX7_disturb 4 = .ok (.ifCond .ne 4, 3) := by decide +kernel
theorem dX7_disturb_7 : decode cX7_disturb 7 = .ok (.return_, 1) := by decide +kernel
theorem dX7_disturb_8 : decode cX7_disturb 8 = .ok (.aload_n 0, 1) := by decide +kernel
theorem dX7_disturb_9 : decode cX7_disturb 9 = .ok (.lload_n 1, 1) := by decide +kernel
theorem dX7_disturb_10 : decode cX7_disturb 10 = .ok (.aload_n 0, 1) := by decide +kernel
theorem dX7_disturb_11 : decode cX7_disturb 11 = .ok (.getfield 33, 3) := by decide +kernel
theorem dX7_disturb_14 : decode cX7_disturb 14 = .ok (.i2l, 1) := by decide +kernel
theorem dX7_disturb_15 : decode cX7_disturb 15 = .ok (.lrem, 1) := by decide +kernel
theorem dX7_disturb_16 : decode cX7_disturb 16 = .ok (.l2i, 1) := by decide +kernel
theorem dX7_disturb_17 : decode cX7_disturb 17 = .ok (.lload_n 1, 1) := by decide +kernel
theorem dX7_disturb_18 : decode cX7_disturb 18 = .ok (.ldc2_w 62, 3) := by decide +kernel
theorem dX7_disturb_21 : decode cX7_disturb 21 = .ok (.ldiv, 1) := by decide +kernel
theorem dX7_disturb_22 : decode cX7_disturb 22 = .ok (.ldc2_w 64, 3) := by decide +kernel
theorem dX7_disturb_25 : decode cX7_disturb 25 = .ok (.lrem, 1) := by decide +kernel
theorem dX7_disturb_26 : decode cX7_disturb 26 = .ok (.l2i, 1) := by decide +kernel
theorem dX7_disturb_27 : decode cX7_disturb 27 = .ok (.invokevirtual 66, 3) := by decide +kernel
theorem dX7_disturb_30 : decode cX7_disturb 30 = .ok (.aload_n 0, 1) := by decide +kernel
theorem dX7_disturb_31 : decode cX7_disturb 31 = .ok (.getfield 27, 3) := by decide +kernel
theorem dX7_disturb_34 : decode cX7_disturb 34 = .ok (.lload_n 1, 1) := by decide +kernel
theorem dX7_disturb_35 : decode cX7_disturb 35 = .ok (.ldc2_w 70, 3) := by decide +kernel
theorem dX7_disturb_38 : decode cX7_disturb 38 = .ok (.ldiv, 1) := by decide +kernel
theorem dX7_disturb_39 : decode cX7_disturb 39 = .ok (.aload_n 0, 1) := by decide +kernel
theorem dX7_disturb_40 : decode cX7_disturb 40 = .ok (.getfield 37, 3) := by decide +kernel
theorem dX7_disturb_43 : decode cX7_disturb 43 = .ok (.i2l, 1) := by decide +kernel
theorem dX7_disturb_44 : decode cX7_disturb 44 = .ok (.lrem, 1) := by decide +kernel
theorem dX7_disturb_45 : decode cX7_disturb 45 = .ok (.l2i, 1) := by decide +kernel
theorem dX7_disturb_46 : decode cX7_disturb 46 = .ok (.lload_n 1, 1) := by decide +kernel
theorem dX7_disturb_47 : decode cX7_disturb 47 = .ok (.ldc2_w 72, 3) := by decide +kernel
theorem dX7_disturb_50 : decode cX7_disturb 50 = .ok (.ldiv, 1) := by decide +kernel
theorem dX7_disturb_51 : decode cX7_disturb 51 = .ok (.aload_n 0, 1) := by decide +kernel
theorem dX7_disturb_52 : decode cX7_disturb 52 = .ok (.getfield 33, 3) := by decide +kernel
theorem dX7_disturb_55 : decode cX7_disturb 55 = .ok (.i2l, 1) := by decide +kernel
theorem dX7_disturb_56 : decode cX7_disturb 56 = .ok (.lrem, 1) := by decide +kernel
theorem dX7_disturb_57 : decode cX7_disturb 57 = .ok (.l2i, 1) := by decide +kernel
theorem dX7_disturb_58 : decode cX7_disturb 58 = .ok (.iastore, 1) := by decide +kernel
theorem dX7_disturb_59 : decode cX7_disturb 59 = .ok (.return_, 1) := by decide +kernel
def R_X7_disturb (v : Nat) (a1 : Int64) (σ : kS) (τ : kS) : Prop := Run SX jX7_disturb [(.ref v), (.long a1)] σ none τ
set_option maxRecDepth 20000 in
theorem t_X7_disturb {v : Nat} {a1 : Int64} {σ : kS} {τ : kS} (hv : k_vly v = true) (h : ((0 < (σ.1 v 1) ∧ 0 < (σ.1 v 2)) → ¬ (σ.1 v 1).toInt64 = 0 ∧ (∃ s3 : kS, R_X7_turnPitch v (a1 - a1 / (σ.1 v 1).toInt64 * (σ.1 v 1).toInt64).toInt32 ((a1 / (16 : Int64)) - (a1 / (16 : Int64)) / (12 : Int64) * (12 : Int64)).toInt32 σ s3 ∧ (¬ (s3.1 v 2).toInt64 = 0 ∧ (¬ (s3.1 v 1).toInt64 = 0 ∧ (vp_in ((a1 / (256 : Int64)) - (a1 / (256 : Int64)) / (s3.1 v 2).toInt64 * (s3.1 v 2).toInt64).toInt32 5 ∧ (τ = (k_si s3 (v + 6) ((a1 / (256 : Int64)) - (a1 / (256 : Int64)) / (s3.1 v 2).toInt64 * (s3.1 v 2).toInt64).toInt32.toNatClampNeg ((a1 / (4096 : Int64)) - (a1 / (4096 : Int64)) / (s3.1 v 1).toInt64 * (s3.1 v 1).toInt64).toInt32))))))) ∧ (¬ (0 < (σ.1 v 1) ∧ 0 < (σ.1 v 2)) → τ = σ)) : R_X7_disturb v a1 σ τ := by
  refine x_run [some (.ref v), some (.long a1), none] (by decide +kernel) rfl (Nat.le_of_ble_eq_true rfl) ?_
  refine x_aload_n (pc := 0) 0 dX7_disturb_0 rfl rfl ?_
  refine x_callV (pc := 1) [] [] dX7_disturb_1 ⟨⟨hX7_isThere.1, hX7_isThere.2.1, hX7_isThere.2.2, by decide⟩, mX7_58, vX7_isThere.1, vX7_isThere.2⟩ (ci := 7) rfl (vl_is hv) rfl rfl (Nat.le_of_ble_eq_true rfl) (i_X7_isThere hv) ?_
  refine x_bif_ne (pc := 4) 8 dX7_disturb_4 (by decide) (fun c1 => ?_) (fun c1 => ?_)
  · replace h := h.1 c1
    refine x_aload_n (pc := 8) 0 dX7_disturb_8 rfl rfl ?_
    refine x_lload_n (pc := 9) 1 dX7_disturb_9 rfl rfl ?_
    refine x_aload_n (pc := 10) 0 dX7_disturb_10 rfl rfl ?_
    refine x_getI (pc := 11) dX7_disturb_11 fX7_33 (vl_is hv) (vl_i1 hv) ?_
    refine x_i2l (pc := 14) dX7_disturb_14 ?_
    obtain ⟨g2, h⟩ := h
    refine x_lrem (pc := 15) dX7_disturb_15 g2 ?_
    refine x_l2i (pc := 16) dX7_disturb_16 ?_
    refine x_lload_n (pc := 17) 1 dX7_disturb_17 rfl rfl ?_
    refine x_ldc2 (pc := 18) dX7_disturb_18 clX7_62 ?_
    refine x_ldiv (pc := 21) dX7_disturb_21 (by decide) ?_
    refine x_ldc2 (pc := 22) dX7_disturb_22 clX7_64 ?_
    refine x_lrem (pc := 25) dX7_disturb_25 (by decide) ?_
    refine x_l2i (pc := 26) dX7_disturb_26 ?_
    obtain ⟨s3, hr, h⟩ := h
    refine x_callV (pc := 27) [(.int (a1 - a1 / (σ.1 v 1).toInt64 * (σ.1 v 1).toInt64).toInt32), (.int ((a1 / (16 : Int64)) - (a1 / (16 : Int64)) / (12 : Int64) * (12 : Int64)).toInt32)] [] dX7_disturb_27 ⟨⟨hX7_turnPitch.1, hX7_turnPitch.2.1, hX7_turnPitch.2.2, by decide⟩, mX7_66, vX7_turnPitch.1, vX7_turnPitch.2⟩ (ci := 7) rfl (vl_is hv) rfl rfl (Nat.le_of_ble_eq_true rfl) hr ?_
    refine x_aload_n (pc := 30) 0 dX7_disturb_30 rfl rfl ?_
    refine x_getR (pc := 31) dX7_disturb_31 fX7_27 (vl_is hv) (vl_r9 hv) ?_
    refine x_lload_n (pc := 34) 1 dX7_disturb_34 rfl rfl ?_
    refine x_ldc2 (pc := 35) dX7_disturb_35 clX7_70 ?_
    refine x_ldiv (pc := 38) dX7_disturb_38 (by decide) ?_
    refine x_aload_n (pc := 39) 0 dX7_disturb_39 rfl rfl ?_
    refine x_getI (pc := 40) dX7_disturb_40 fX7_37 (vl_is hv) (vl_i2 hv) ?_
    refine x_i2l (pc := 43) dX7_disturb_43 ?_
    obtain ⟨g4, h⟩ := h
    refine x_lrem (pc := 44) dX7_disturb_44 g4 ?_
    refine x_l2i (pc := 45) dX7_disturb_45 ?_
    refine x_lload_n (pc := 46) 1 dX7_disturb_46 rfl rfl ?_
    refine x_ldc2 (pc := 47) dX7_disturb_47 clX7_72 ?_
    refine x_ldiv (pc := 50) dX7_disturb_50 (by decide) ?_
    refine x_aload_n (pc := 51) 0 dX7_disturb_51 rfl rfl ?_
    refine x_getI (pc := 52) dX7_disturb_52 fX7_33 (vl_is hv) (vl_i1 hv) ?_
    refine x_i2l (pc := 55) dX7_disturb_55 ?_
    obtain ⟨g5, h⟩ := h
    refine x_lrem (pc := 56) dX7_disturb_56 g5 ?_
    refine x_l2i (pc := 57) dX7_disturb_57 ?_
    obtain ⟨g6, h⟩ := h
    refine x_iastore (pc := 58) (n := 5) dX7_disturb_58 (vl_a9 hv) g6 ?_
    exact x_return2 (pc := 59) dX7_disturb_59 rfl h
  · replace h := h.2 c1
    exact x_return2 (pc := 7) dX7_disturb_7 rfl h
theorem dX7_tiredInAll_0 : decode cX7_tiredInAll 0 = .ok (.iconst 0, 1) := by decide +kernel
theorem dX7_tiredInAll_1 : decode cX7_tiredInAll 1 = .ok (.istore_n 1, 1) := by decide +kernel
theorem dX7_tiredInAll_2 : decode cX7_tiredInAll 2 = .ok (.iconst 0, 1) := by decide +kernel
theorem dX7_tiredInAll_3 : decode cX7_tiredInAll 3 = .ok (.istore_n 2, 1) := by decide +kernel
theorem dX7_tiredInAll_4 : decode cX7_tiredInAll 4 = .ok (.iload_n 2, 1) := by decide +kernel
theorem dX7_tiredInAll_5 : decode cX7_tiredInAll 5 = .ok (.aload_n 0, 1) := by decide +kernel
theorem dX7_tiredInAll_6 : decode cX7_tiredInAll 6 = .ok (.getfield 37, 3) := by decide +kernel
theorem dX7_tiredInAll_9 : decode cX7_tiredInAll 9 = .ok (.if_icmp .ge 18, 3) := by decide +kernel
theorem dX7_tiredInAll_12 : decode cX7_tiredInAll 12 = .ok (.iload_n 1, 1) := by decide +kernel
theorem dX7_tiredInAll_13 : decode cX7_tiredInAll 13 = .ok (.aload_n 0, 1) := by decide +kernel
theorem dX7_tiredInAll_14 : decode cX7_tiredInAll 14 = .ok (.getfield 30, 3) := by decide +kernel
theorem dX7_tiredInAll_17 : decode cX7_tiredInAll 17 = .ok (.iload_n 2, 1) := by decide +kernel
theorem dX7_tiredInAll_18 : decode cX7_tiredInAll 18 = .ok (.iaload, 1) := by decide +kernel
theorem dX7_tiredInAll_19 : decode cX7_tiredInAll 19 = .ok (.iadd, 1) := by decide +kernel
theorem dX7_tiredInAll_20 : decode cX7_tiredInAll 20 = .ok (.istore_n 1, 1) := by decide +kernel
theorem dX7_tiredInAll_21 : decode cX7_tiredInAll 21 = .ok (.iinc 2 1, 3) := by decide +kernel
theorem dX7_tiredInAll_24 : decode cX7_tiredInAll 24 = .ok (.goto (-20), 3) := by decide +kernel
theorem dX7_tiredInAll_27 : decode cX7_tiredInAll 27 = .ok (.iload_n 1, 1) := by decide +kernel
theorem dX7_tiredInAll_28 : decode cX7_tiredInAll 28 = .ok (.ireturn, 1) := by decide +kernel
def R_X7_tiredInAll (v : Nat) (σ : kS) (x : Int32) (τ : kS) : Prop := Run SX jX7_tiredInAll [(.ref v)] σ (some (.int x)) τ
def E_X7_tiredInAll_4 (v : Nat) (l1 : Int32) (l2 : Int32) (σ : kS) (x : Int32) (τ : kS) : Prop := Ex SX jX7_tiredInAll 4 [some (.ref v), some (.int l1), some (.int l2)] [] σ (some (.int x)) τ
set_option maxRecDepth 20000 in
theorem t_X7_tiredInAll {v : Nat} {σ : kS} {x : Int32} {τ : kS} (hv : k_vly v = true) (h : E_X7_tiredInAll_4 v (0 : Int32) (0 : Int32) σ x τ) : R_X7_tiredInAll v σ x τ := by
  refine x_run [some (.ref v), none, none] (by decide +kernel) rfl (Nat.le_of_ble_eq_true rfl) ?_
  refine x_iconst (pc := 0) (0 : Int32) dX7_tiredInAll_0 (by decide +kernel) ?_
  refine x_istore_n (pc := 1) 1 dX7_tiredInAll_1 rfl (by decide) rfl ?_
  refine x_iconst (pc := 2) (0 : Int32) dX7_tiredInAll_2 (by decide +kernel) ?_
  refine x_istore_n (pc := 3) 2 dX7_tiredInAll_3 rfl (by decide) rfl ?_
  exact h
set_option maxRecDepth 20000 in
theorem t_X7_tiredInAll_4 {v : Nat} {l1 : Int32} {l2 : Int32} {σ : kS} {x : Int32} {τ : kS} (hv : k_vly v = true) (h : ((σ.1 v 2) ≤ l2 → x = l1 ∧ τ = σ) ∧ (¬ (σ.1 v 2) ≤ l2 → vp_in l2 5 ∧ (E_X7_tiredInAll_4 v (l1 + (σ.1 (v + 7) l2.toNatClampNeg)) (l2 + (1 : Int32)) σ x τ))) : E_X7_tiredInAll_4 v l1 l2 σ x τ := by
  unfold E_X7_tiredInAll_4
  refine x_iload_n (pc := 4) 2 dX7_tiredInAll_4 rfl rfl ?_
  refine x_aload_n (pc := 5) 0 dX7_tiredInAll_5 rfl rfl ?_
  refine x_getI (pc := 6) dX7_tiredInAll_6 fX7_37 (vl_is hv) (vl_i2 hv) ?_
  refine x_icmp_ge (pc := 9) 27 dX7_tiredInAll_9 (by decide) (fun c1 => ?_) (fun c1 => ?_)
  · replace h := h.1 c1
    refine x_iload_n (pc := 27) 1 dX7_tiredInAll_27 rfl rfl ?_
    exact x_ireturn2 (pc := 28) dX7_tiredInAll_28 rfl h.1 h.2
  · replace h := h.2 c1
    refine x_iload_n (pc := 12) 1 dX7_tiredInAll_12 rfl rfl ?_
    refine x_aload_n (pc := 13) 0 dX7_tiredInAll_13 rfl rfl ?_
    refine x_getR (pc := 14) dX7_tiredInAll_14 fX7_30 (vl_is hv) (vl_r10 hv) ?_
    refine x_iload_n (pc := 17) 2 dX7_tiredInAll_17 rfl rfl ?_
    obtain ⟨g2, h⟩ := h
    refine x_iaload (pc := 18) (n := 5) dX7_tiredInAll_18 (vl_a10 hv) g2 ?_
    refine x_iadd (pc := 19) dX7_tiredInAll_19 ?_
    refine x_istore_n (pc := 20) 1 dX7_tiredInAll_20 rfl (by decide) rfl ?_
    refine x_iinc (pc := 21) (1 : Int32) dX7_tiredInAll_21 (by decide) rfl rfl (by decide +kernel) ?_
    refine x_goto (pc := 24) 4 dX7_tiredInAll_24 (by decide) ?_
    exact h
theorem dX7_packTired_0 : decode cX7_packTired 0 = .ok (.iconst 0, 1) := by decide +kernel
theorem dX7_packTired_1 : decode cX7_packTired 1 = .ok (.istore_n 1, 1) := by decide +kernel
theorem dX7_packTired_2 : decode cX7_packTired 2 = .ok (.iconst 0, 1) := by decide +kernel
theorem dX7_packTired_3 : decode cX7_packTired 3 = .ok (.istore_n 2, 1) := by decide +kernel
theorem dX7_packTired_4 : decode cX7_packTired 4 = .ok (.iload_n 2, 1) := by decide +kernel
theorem dX7_packTired_5 : decode cX7_packTired 5 = .ok (.aload_n 0, 1) := by decide +kernel
theorem dX7_packTired_6 : decode cX7_packTired 6 = .ok (.getfield 37, 3) := by decide +kernel
theorem dX7_packTired_9 : decode cX7_packTired 9 = .ok (.if_icmp .ge 22, 3) := by decide +kernel
theorem dX7_packTired_12 : decode cX7_packTired 12 = .ok (.iload_n 1, 1) := by decide +kernel
theorem dX7_packTired_13 : decode cX7_packTired 13 = .ok (.aload_n 0, 1) := by decide +kernel
theorem dX7_packTired_14 : decode cX7_packTired 14 = .ok (.getfield 30, 3) := by decide +kernel
theorem dX7_packTired_17 : decode cX7_packTired 17 = .ok (.iload_n 2, 1) := by decide +kernel
theorem dX7_packTired_18 : decode cX7_packTired 18 = .ok (.iaload, 1) := by decide +kernel
theorem dX7_packTired_19 : decode cX7_packTired 19 = .ok (.iconst 4, 1) := by decide +kernel
theorem dX7_packTired_20 : decode cX7_packTired 20 = .ok (.iload_n 2, 1) := by decide +kernel
theorem dX7_packTired_21 : decode cX7_packTired 21 = .ok (.imul, 1) := by decide +kernel
theorem dX7_packTired_22 : decode cX7_packTired 22 = .ok (.ishl, 1) := by decide +kernel
theorem dX7_packTired_23 : decode cX7_packTired 23 = .ok (.ior, 1) := by decide +kernel
theorem dX7_packTired_24 : decode cX7_packTired 24 = .ok (.istore_n 1, 1) := by decide +kernel
theorem dX7_packTired_25 : decode cX7_packTired 25 = .ok (.iinc 2 1, 3) := by decide +kernel
theorem dX7_packTired_28 : decode cX7_packTired 28 = .ok (.goto (-24), 3) := by decide +kernel
theorem dX7_packTired_31 : decode cX7_packTired 31 = .ok (.iload_n 1, 1) := by decide +kernel
theorem dX7_packTired_32 : decode cX7_packTired 32 = .ok (.ireturn, 1) := by decide +kernel
def R_X7_packTired (v : Nat) (σ : kS) (x : Int32) (τ : kS) : Prop := Run SX jX7_packTired [(.ref v)] σ (some (.int x)) τ
def E_X7_packTired_4 (v : Nat) (l1 : Int32) (l2 : Int32) (σ : kS) (x : Int32) (τ : kS) : Prop := Ex SX jX7_packTired 4 [some (.ref v), some (.int l1), some (.int l2)] [] σ (some (.int x)) τ
set_option maxRecDepth 20000 in
theorem t_X7_packTired {v : Nat} {σ : kS} {x : Int32} {τ : kS} (hv : k_vly v = true) (h : E_X7_packTired_4 v (0 : Int32) (0 : Int32) σ x τ) : R_X7_packTired v σ x τ := by
  refine x_run [some (.ref v), none, none] (by decide +kernel) rfl (Nat.le_of_ble_eq_true rfl) ?_
  refine x_iconst (pc := 0) (0 : Int32) dX7_packTired_0 (by decide +kernel) ?_
  refine x_istore_n (pc := 1) 1 dX7_packTired_1 rfl (by decide) rfl ?_
  refine x_iconst (pc := 2) (0 : Int32) dX7_packTired_2 (by decide +kernel) ?_
  refine x_istore_n (pc := 3) 2 dX7_packTired_3 rfl (by decide) rfl ?_
  exact h
set_option maxRecDepth 20000 in
theorem t_X7_packTired_4 {v : Nat} {l1 : Int32} {l2 : Int32} {σ : kS} {x : Int32} {τ : kS} (hv : k_vly v = true) (h : ((σ.1 v 2) ≤ l2 → x = l1 ∧ τ = σ) ∧ (¬ (σ.1 v 2) ≤ l2 → vp_in l2 5 ∧ (E_X7_packTired_4 v (l1 ||| ((σ.1 (v + 7) l2.toNatClampNeg) <<< (((4 : Int32) * l2) &&& 31))) (l2 + (1 : Int32)) σ x τ))) : E_X7_packTired_4 v l1 l2 σ x τ := by
  unfold E_X7_packTired_4
  refine x_iload_n (pc := 4) 2 dX7_packTired_4 rfl rfl ?_
  refine x_aload_n (pc := 5) 0 dX7_packTired_5 rfl rfl ?_
  refine x_getI (pc := 6) dX7_packTired_6 fX7_37 (vl_is hv) (vl_i2 hv) ?_
  refine x_icmp_ge (pc := 9) 31 dX7_packTired_9 (by decide) (fun c1 => ?_) (fun c1 => ?_)
  · replace h := h.1 c1
    refine x_iload_n (pc := 31) 1 dX7_packTired_31 rfl rfl ?_
    exact x_ireturn2 (pc := 32) dX7_packTired_32 rfl h.1 h.2
  · replace h := h.2 c1
    refine x_iload_n (pc := 12) 1 dX7_packTired_12 rfl rfl ?_
    refine x_aload_n (pc := 13) 0 dX7_packTired_13 rfl rfl ?_
    refine x_getR (pc := 14) dX7_packTired_14 fX7_30 (vl_is hv) (vl_r10 hv) ?_
    refine x_iload_n (pc := 17) 2 dX7_packTired_17 rfl rfl ?_
    obtain ⟨g2, h⟩ := h
    refine x_iaload (pc := 18) (n := 5) dX7_packTired_18 (vl_a10 hv) g2 ?_
    refine x_iconst (pc := 19) (4 : Int32) dX7_packTired_19 (by decide +kernel) ?_
    refine x_iload_n (pc := 20) 2 dX7_packTired_20 rfl rfl ?_
    refine x_imul (pc := 21) dX7_packTired_21 ?_
    refine x_ishl (pc := 22) dX7_packTired_22 ?_
    refine x_ior (pc := 23) dX7_packTired_23 ?_
    refine x_istore_n (pc := 24) 1 dX7_packTired_24 rfl (by decide) rfl ?_
    refine x_iinc (pc := 25) (1 : Int32) dX7_packTired_25 (by decide) rfl rfl (by decide +kernel) ?_
    refine x_goto (pc := 28) 4 dX7_packTired_28 (by decide) ?_
    exact h
theorem dX8_feed_0 : decode cX8_feed 0 = .ok (.iload_n 1, 1) := by decide +kernel
theorem dX8_feed_1 : decode cX8_feed 1 = .ok (.sipush 256, 3) := by decide +kernel
theorem dX8_feed_4 : decode cX8_feed 4 = .ok (.invokestatic 70, 3) := by decide +kernel
theorem dX8_feed_7 : decode cX8_feed 7 = .ok (.ifCond .ne 5, 3) := by decide +kernel
theorem dX8_feed_10 : decode cX8_feed 10 = .ok (.iconst (-1), 1) := by decide +kernel
theorem dX8_feed_11 : decode cX8_feed 11 = .ok (.ireturn, 1) := by decide +kernel
theorem dX8_feed_12 : decode cX8_feed 12 = .ok (.aload_n 0, 1) := by decide +kernel
theorem dX8_feed_13 : decode cX8_feed 13 = .ok (.getfield 10, 3) := by decide +kernel
theorem dX8_feed_16 : decode cX8_feed 16 = .ok (.getfield 74, 3) := by decide +kernel
theorem dX8_feed_19 : decode cX8_feed 19 = .ok (.sipush 130, 3) := by decide +kernel
theorem dX8_feed_22 : decode cX8_feed 22 = .ok (.if_icmp .ge 14, 3) := by decide +kernel
theorem dX8_feed_25 : decode cX8_feed 25 = .ok (.aload_n 0, 1) := by decide +kernel
theorem dX8_feed_26 : decode cX8_feed 26 = .ok (.getfield 10, 3) := by decide +kernel
theorem dX8_feed_29 : decode cX8_feed 29 = .ok (.iload_n 1, 1) := by decide +kernel
theorem dX8_feed_30 : decode cX8_feed 30 = .ok (.invokevirtual 78, 3) := by decide +kernel
theorem dX8_feed_33 : decode cX8_feed 33 = .ok (.goto 5, 3) := by decide +kernel
theorem dX8_feed_36 : decode cX8_feed 36 = .ok (.bipush (-3), 2) := by decide +kernel
theorem dX8_feed_38 : decode cX8_feed 38 = .ok (.ireturn, 1) := by decide +kernel
def R_X8_feed (a1 : Int32) (σ : kS) (x : Int32) (τ : kS) : Prop := Run SX jX8_feed [(.ref 0), (.int a1)] σ (some (.int x)) τ
set_option maxRecDepth 20000 in
theorem t_X8_feed {a1 : Int32} {σ : kS} {x : Int32} {τ : kS}  (h : ((wn a1 (256 : Int32)) → ((130 : Int32) ≤ (σ.1 1 1) → x = (-3 : Int32) ∧ τ = σ) ∧ (¬ (130 : Int32) ≤ (σ.1 1 1) → ∃ (x4 : Int32) (s3 : kS), R_X6_put a1 σ x4 s3 ∧ (x = x4 ∧ τ = s3))) ∧ (¬ (wn a1 (256 : Int32)) → x = (-1 : Int32) ∧ τ = σ)) : R_X8_feed a1 σ x τ := by
  refine x_run [some (.ref 0), some (.int a1)] (by decide +kernel) rfl (Nat.le_of_ble_eq_true rfl) ?_
  refine x_iload_n (pc := 0) 1 dX8_feed_0 rfl rfl ?_
  refine x_sipush (pc := 1) (256 : Int32) dX8_feed_1 (by decide +kernel) ?_
  refine x_callS (pc := 4) [(.int a1), (.int (256 : Int32))] [] dX8_feed_4 ⟨⟨hX8_within.1, hX8_within.2.1, hX8_within.2.2, by decide⟩, mX8_70, sX8_within⟩ rfl rfl (Nat.le_of_ble_eq_true rfl) (i_X8_within) ?_
  refine x_bif_ne (pc := 7) 12 dX8_feed_7 (by decide) (fun c1 => ?_) (fun c1 => ?_)
  · replace h := h.1 c1
    refine x_aload_n (pc := 12) 0 dX8_feed_12 rfl rfl ?_
    refine x_getR (pc := 13) dX8_feed_13 fX8_10 rfl rfl ?_
    refine x_getI (pc := 16) dX8_feed_16 fX8_74 rfl rfl ?_
    refine x_sipush (pc := 19) (130 : Int32) dX8_feed_19 (by decide +kernel) ?_
    refine x_icmp_ge (pc := 22) 36 dX8_feed_22 (by decide) (fun c2 => ?_) (fun c2 => ?_)
    · replace h := h.1 c2
      refine x_bipush (pc := 36) (-3 : Int32) dX8_feed_36 (by decide +kernel) ?_
      exact x_ireturn2 (pc := 38) dX8_feed_38 rfl h.1 h.2
    · replace h := h.2 c2
      refine x_aload_n (pc := 25) 0 dX8_feed_25 rfl rfl ?_
      refine x_getR (pc := 26) dX8_feed_26 fX8_10 rfl rfl ?_
      refine x_iload_n (pc := 29) 1 dX8_feed_29 rfl rfl ?_
      obtain ⟨x4, s3, hr, h⟩ := h
      refine x_callV (pc := 30) [(.int a1)] [] dX8_feed_30 ⟨⟨hX6_put.1, hX6_put.2.1, hX6_put.2.2, by decide⟩, mX8_78, vX6_put.1, vX6_put.2⟩ (ci := 6) rfl rfl rfl rfl (Nat.le_of_ble_eq_true rfl) hr ?_
      refine x_goto (pc := 33) 38 dX8_feed_33 (by decide) ?_
      exact x_ireturn2 (pc := 38) dX8_feed_38 rfl h.1 h.2
  · replace h := h.2 c1
    refine x_iconst (pc := 10) (-1 : Int32) dX8_feed_10 (by decide +kernel) ?_
    exact x_ireturn2 (pc := 11) dX8_feed_11 rfl h.1 h.2
theorem dX8_begin_0 : decode cX8_begin 0 = .ok (.aload_n 0, 1) := by decide +kernel
theorem dX8_begin_1 : decode cX8_begin 1 = .ok (.getfield 19, 3) := by decide +kernel
theorem dX8_begin_4 : decode cX8_begin 4 = .ok (.aload_n 1, 1) := by decide +kernel
theorem dX8_begin_5 : decode cX8_begin 5 = .ok (.invokevirtual 170, 3) := by decide +kernel
theorem dX8_begin_8 : decode cX8_begin 8 = .ok (.aload_n 0, 1) := by decide +kernel
theorem dX8_begin_9 : decode cX8_begin 9 = .ok (.getfield 48, 3) := by decide +kernel
theorem dX8_begin_12 : decode cX8_begin 12 = .ok (.aload_n 0, 1) := by decide +kernel
theorem dX8_begin_13 : decode cX8_begin 13 = .ok (.getfield 19, 3) := by decide +kernel
theorem dX8_begin_16 : decode cX8_begin 16 = .ok (.invokevirtual 293, 3) := by decide +kernel
theorem dX8_begin_19 : decode cX8_begin 19 = .ok (.aload_n 0, 1) := by decide +kernel
theorem dX8_begin_20 : decode cX8_begin 20 = .ok (.getfield 33, 3) := by decide +kernel
theorem dX8_begin_23 : decode cX8_begin 23 = .ok (.invokevirtual 296, 3) := by decide +kernel
theorem dX8_begin_26 : decode cX8_begin 26 = .ok (.return_, 1) := by decide +kernel
def R_X8_begin (v : Nat) (σ : kS) (τ : kS) : Prop := Run SX jX8_begin [(.ref 0), (.ref v)] σ none τ
set_option maxRecDepth 20000 in
theorem t_X8_begin {v : Nat} {σ : kS} {τ : kS} (hv : k_vly v = true) (h : ∃ s1 : kS, R_X7_become 3 v σ s1 ∧ (∃ s2 : kS, R_X2_learn  s1 s2 ∧ (∃ s3 : kS, R_X0_forget  s2 s3 ∧ (τ = s3)))) : R_X8_begin v σ τ := by
  refine x_run [some (.ref 0), some (.ref v)] (by decide +kernel) rfl (Nat.le_of_ble_eq_true rfl) ?_
  refine x_aload_n (pc := 0) 0 dX8_begin_0 rfl rfl ?_
  refine x_getR (pc := 1) dX8_begin_1 fX8_19 rfl rfl ?_
  refine x_aload_n (pc := 4) 1 dX8_begin_4 rfl rfl ?_
  obtain ⟨s1, hr, h⟩ := h
  refine x_callV (pc := 5) [(.ref v)] [] dX8_begin_5 ⟨⟨hX7_become.1, hX7_become.2.1, hX7_become.2.2, by decide⟩, mX8_170, vX7_become.1, vX7_become.2⟩ (ci := 7) rfl rfl rfl rfl (Nat.le_of_ble_eq_true rfl) hr ?_
  refine x_aload_n (pc := 8) 0 dX8_begin_8 rfl rfl ?_
  refine x_getR (pc := 9) dX8_begin_9 fX8_48 rfl rfl ?_
  refine x_aload_n (pc := 12) 0 dX8_begin_12 rfl rfl ?_
  refine x_getR (pc := 13) dX8_begin_13 fX8_19 rfl rfl ?_
  obtain ⟨s2, hr, h⟩ := h
  refine x_callV (pc := 16) [(.ref 3)] [] dX8_begin_16 ⟨⟨hX2_learn.1, hX2_learn.2.1, hX2_learn.2.2, by decide⟩, mX8_293, vX2_learn.1, vX2_learn.2⟩ (ci := 2) rfl rfl rfl rfl (Nat.le_of_ble_eq_true rfl) hr ?_
  refine x_aload_n (pc := 19) 0 dX8_begin_19 rfl rfl ?_
  refine x_getR (pc := 20) dX8_begin_20 fX8_33 rfl rfl ?_
  obtain ⟨s3, hr, h⟩ := h
  refine x_callV (pc := 23) [] [] dX8_begin_23 ⟨⟨hX0_forget.1, hX0_forget.2.1, hX0_forget.2.2, by decide⟩, mX8_296, vX0_forget.1, vX0_forget.2⟩ (ci := 0) rfl rfl rfl rfl (Nat.le_of_ble_eq_true rfl) hr ?_
  exact x_return2 (pc := 26) dX8_begin_26 rfl h
theorem dX8_valley_0 : decode cX8_valley 0 = .ok (.aload_n 0, 1) := by decide +kernel
theorem dX8_valley_1 : decode cX8_valley 1 = .ok (.getfield 10, 3) := by decide +kernel
theorem dX8_valley_4 : decode cX8_valley 4 = .ok (.aload_n 0, 1) := by decide +kernel
theorem dX8_valley_5 : decode cX8_valley 5 = .ok (.getfield 23, 3) := by decide +kernel
theorem dX8_valley_8 : decode cX8_valley 8 = .ok (.invokevirtual 82, 3) := by decide +kernel
theorem dX8_valley_11 : decode cX8_valley 11 = .ok (.istore_n 1, 1) := by decide +kernel
theorem dX8_valley_12 : decode cX8_valley 12 = .ok (.aload_n 0, 1) := by decide +kernel
theorem dX8_valley_13 : decode cX8_valley 13 = .ok (.getfield 10, 3) := by decide +kernel
theorem dX8_valley_16 : decode cX8_valley 16 = .ok (.iconst 0, 1) := by decide +kernel
theorem dX8_valley_17 : decode cX8_valley 17 = .ok (.putfield 74, 3) := by decide +kernel
theorem dX8_valley_20 : decode cX8_valley 20 = .ok (.iload_n 1, 1) := by decide +kernel
theorem dX8_valley_21 : decode cX8_valley 21 = .ok (.ifCond .ne 14, 3) := by decide +kernel
theorem dX8_valley_24 : decode cX8_valley 24 = .ok (.bipush (-100), 2) := by decide +kernel
theorem dX8_valley_26 : decode cX8_valley 26 = .ok (.aload_n 0, 1) := by decide +kernel
theorem dX8_valley_27 : decode cX8_valley 27 = .ok (.getfield 10, 3) := by decide +kernel
theorem dX8_valley_30 : decode cX8_valley 30 = .ok (.getfield 86, 3) := by decide +kernel
theorem dX8_valley_33 : decode cX8_valley 33 = .ok (.isub, 1) := by decide +kernel
theorem dX8_valley_34 : decode cX8_valley 34 = .ok (.ireturn, 1) := by decide +kernel
theorem dX8_valley_35 : decode cX8_valley 35 = .ok (.aload_n 0, 1) := by decide +kernel
theorem dX8_valley_36 : decode cX8_valley 36 = .ok (.aload_n 0, 1) := by decide +kernel
theorem dX8_valley_37 : decode cX8_valley 37 = .ok (.getfield 23, 3) := by decide +kernel
theorem dX8_valley_40 : decode cX8_valley 40 = .ok (.invokevirtual 89, 3) := by decide +kernel
theorem dX8_valley_43 : decode cX8_valley 43 = .ok (.aload_n 0, 1) := by decide +kernel
theorem dX8_valley_44 : decode cX8_valley 44 = .ok (.getfield 19, 3) := by decide +kernel
theorem dX8_valley_47 : decode cX8_valley 47 = .ok (.getfield 93, 3) := by decide +kernel
theorem dX8_valley_50 : decode cX8_valley 50 = .ok (.ireturn, 1) := by decide +kernel
def R_X8_valley  (σ : kS) (x : Int32) (τ : kS) : Prop := Run SX jX8_valley [(.ref 0)] σ (some (.int x)) τ
set_option maxRecDepth 20000 in
theorem t_X8_valley  {σ : kS} {x : Int32} {τ : kS}  (h : ∃ (x2 : Int32) (s1 : kS), R_X6_readValley  σ x2 s1 ∧ ((¬ x2 = 0 → ∃ s4 : kS, R_X8_begin 11 (k_si s1 1 1 (0 : Int32)) s4 ∧ (x = (s4.1 3 2) ∧ τ = s4)) ∧ (x2 = 0 → x = ((-100 : Int32) - (s1.1 1 2)) ∧ τ = (k_si s1 1 1 (0 : Int32))))) : R_X8_valley  σ x τ := by
  refine x_run [some (.ref 0), none] (by decide +kernel) rfl (Nat.le_of_ble_eq_true rfl) ?_
  refine x_aload_n (pc := 0) 0 dX8_valley_0 rfl rfl ?_
  refine x_getR (pc := 1) dX8_valley_1 fX8_10 rfl rfl ?_
  refine x_aload_n (pc := 4) 0 dX8_valley_4 rfl rfl ?_
  refine x_getR (pc := 5) dX8_valley_5 fX8_23 rfl rfl ?_
  obtain ⟨x2, s1, hr, h⟩ := h
  refine x_callV (pc := 8) [(.ref 11)] [] dX8_valley_8 ⟨⟨hX6_readValley.1, hX6_readValley.2.1, hX6_readValley.2.2, by decide⟩, mX8_82, vX6_readValley.1, vX6_readValley.2⟩ (ci := 6) rfl rfl rfl rfl (Nat.le_of_ble_eq_true rfl) hr ?_
  refine x_istore_n (pc := 11) 1 dX8_valley_11 rfl (by decide) rfl ?_
  refine x_aload_n (pc := 12) 0 dX8_valley_12 rfl rfl ?_
  refine x_getR (pc := 13) dX8_valley_13 fX8_10 rfl rfl ?_
  refine x_iconst (pc := 16) (0 : Int32) dX8_valley_16 (by decide +kernel) ?_
  refine x_putI (pc := 17) dX8_valley_17 pX8_74 rfl rfl ?_
  refine x_iload_n (pc := 20) 1 dX8_valley_20 rfl rfl ?_
  refine x_if_ne (pc := 21) 35 dX8_valley_21 (by decide) (fun c3 => ?_) (fun c3 => ?_)
  · replace h := h.1 c3
    refine x_aload_n (pc := 35) 0 dX8_valley_35 rfl rfl ?_
    refine x_aload_n (pc := 36) 0 dX8_valley_36 rfl rfl ?_
    refine x_getR (pc := 37) dX8_valley_37 fX8_23 rfl rfl ?_
    obtain ⟨s4, hr, h⟩ := h
    refine x_callV (pc := 40) [(.ref 11)] [] dX8_valley_40 ⟨⟨hX8_begin.1, hX8_begin.2.1, hX8_begin.2.2, by decide⟩, mX8_89, vX8_begin.1, vX8_begin.2⟩ (ci := 8) rfl rfl rfl rfl (Nat.le_of_ble_eq_true rfl) hr ?_
    refine x_aload_n (pc := 43) 0 dX8_valley_43 rfl rfl ?_
    refine x_getR (pc := 44) dX8_valley_44 fX8_19 rfl rfl ?_
    refine x_getI (pc := 47) dX8_valley_47 fX8_93 rfl rfl ?_
    exact x_ireturn2 (pc := 50) dX8_valley_50 rfl h.1 h.2
  · replace h := h.2 c3
    refine x_bipush (pc := 24) (-100 : Int32) dX8_valley_24 (by decide +kernel) ?_
    refine x_aload_n (pc := 26) 0 dX8_valley_26 rfl rfl ?_
    refine x_getR (pc := 27) dX8_valley_27 fX8_10 rfl rfl ?_
    refine x_getI (pc := 30) dX8_valley_30 fX8_86 rfl rfl ?_
    refine x_isub (pc := 33) dX8_valley_33 ?_
    exact x_ireturn2 (pc := 34) dX8_valley_34 rfl h.1 h.2
theorem dX8_shape_0 : decode cX8_shape 0 = .ok (.iload_n 1, 1) := by decide +kernel
theorem dX8_shape_1 : decode cX8_shape 1 = .ok (.aload_n 0, 1) := by decide +kernel
theorem dX8_shape_2 : decode cX8_shape 2 = .ok (.getfield 19, 3) := by decide +kernel
theorem dX8_shape_5 : decode cX8_shape 5 = .ok (.getfield 96, 3) := by decide +kernel
theorem dX8_shape_8 : decode cX8_shape 8 = .ok (.invokestatic 70, 3) := by decide +kernel
theorem dX8_shape_11 : decode cX8_shape 11 = .ok (.ifCond .eq 15, 3) := by decide +kernel
theorem dX8_shape_14 : decode cX8_shape 14 = .ok (.aload_n 0, 1) := by decide +kernel
theorem dX8_shape_15 : decode cX8_shape 15 = .ok (.getfield 19, 3) := by decide +kernel
theorem dX8_shape_18 : decode cX8_shape 18 = .ok (.getfield 99, 3) := by decide +kernel
theorem dX8_shape_21 : decode cX8_shape 21 = .ok (.iload_n 1, 1) := by decide +kernel
theorem dX8_shape_22 : decode cX8_shape 22 = .ok (.iaload, 1) := by decide +kernel
theorem dX8_shape_23 : decode cX8_shape 23 = .ok (.goto 4, 3) := by decide +kernel
theorem dX8_shape_26 : decode cX8_shape 26 = .ok (.iconst (-1), 1) := by decide +kernel
theorem dX8_shape_27 : decode cX8_shape 27 = .ok (.ireturn, 1) := by decide +kernel
def R_X8_shape (a1 : Int32) (σ : kS) (x : Int32) (τ : kS) : Prop := Run SX jX8_shape [(.ref 0), (.int a1)] σ (some (.int x)) τ
set_option maxRecDepth 20000 in
theorem t_X8_shape {a1 : Int32} {σ : kS} {x : Int32} {τ : kS}  (h : (¬ (wn a1 (σ.1 3 0)) → x = (-1 : Int32) ∧ τ = σ) ∧ ((wn a1 (σ.1 3 0)) → vp_in a1 4 ∧ (x = (σ.1 4 a1.toNatClampNeg) ∧ τ = σ))) : R_X8_shape a1 σ x τ := by
  refine x_run [some (.ref 0), some (.int a1)] (by decide +kernel) rfl (Nat.le_of_ble_eq_true rfl) ?_
  refine x_iload_n (pc := 0) 1 dX8_shape_0 rfl rfl ?_
  refine x_aload_n (pc := 1) 0 dX8_shape_1 rfl rfl ?_
  refine x_getR (pc := 2) dX8_shape_2 fX8_19 rfl rfl ?_
  refine x_getI (pc := 5) dX8_shape_5 fX8_96 rfl rfl ?_
  refine x_callS (pc := 8) [(.int a1), (.int (σ.1 3 0))] [] dX8_shape_8 ⟨⟨hX8_within.1, hX8_within.2.1, hX8_within.2.2, by decide⟩, mX8_70, sX8_within⟩ rfl rfl (Nat.le_of_ble_eq_true rfl) (i_X8_within) ?_
  refine x_bif_eq (pc := 11) 26 dX8_shape_11 (by decide) (fun c1 => ?_) (fun c1 => ?_)
  · replace h := h.1 c1
    refine x_iconst (pc := 26) (-1 : Int32) dX8_shape_26 (by decide +kernel) ?_
    exact x_ireturn2 (pc := 27) dX8_shape_27 rfl h.1 h.2
  · replace h := h.2 c1
    refine x_aload_n (pc := 14) 0 dX8_shape_14 rfl rfl ?_
    refine x_getR (pc := 15) dX8_shape_15 fX8_19 rfl rfl ?_
    refine x_getR (pc := 18) dX8_shape_18 fX8_99 rfl rfl ?_
    refine x_iload_n (pc := 21) 1 dX8_shape_21 rfl rfl ?_
    obtain ⟨g2, h⟩ := h
    refine x_iaload (pc := 22) (n := 4) dX8_shape_22 rfl g2 ?_
    refine x_goto (pc := 23) 27 dX8_shape_23 (by decide) ?_
    exact x_ireturn2 (pc := 27) dX8_shape_27 rfl h.1 h.2
theorem dX8_tellChord_0 : decode cX8_tellChord 0 = .ok (.iload_n 2, 1) := by decide +kernel
theorem dX8_tellChord_1 : decode cX8_tellChord 1 = .ok (.lookupswitch 45 #[(0, 27), (1, 36)], 27) := by decide +kernel
theorem dX8_tellChord_28 : decode cX8_tellChord 28 = .ok (.aload_n 0, 1) := by decide +kernel
theorem dX8_tellChord_29 : decode cX8_tellChord 29 = .ok (.getfield 48, 3) := by decide +kernel
theorem dX8_tellChord_32 : decode cX8_tellChord 32 = .ok (.iload_n 1, 1) := by decide +kernel
theorem dX8_tellChord_33 : decode cX8_tellChord 33 = .ok (.invokevirtual 284, 3) := by decide +kernel
theorem dX8_tellChord_36 : decode cX8_tellChord 36 = .ok (.ireturn, 1) := by decide +kernel
theorem dX8_tellChord_37 : decode cX8_tellChord 37 = .ok (.aload_n 0, 1) := by decide +kernel
theorem dX8_tellChord_38 : decode cX8_tellChord 38 = .ok (.getfield 48, 3) := by decide +kernel
theorem dX8_tellChord_41 : decode cX8_tellChord 41 = .ok (.iload_n 1, 1) := by decide +kernel
theorem dX8_tellChord_42 : decode cX8_tellChord 42 = .ok (.invokevirtual 287, 3) := by decide +kernel
theorem dX8_tellChord_45 : decode cX8_tellChord 45 = .ok (.ireturn, 1) := by decide +kernel
theorem dX8_tellChord_46 : decode cX8_tellChord 46 = .ok (.aload_n 0, 1) := by decide +kernel
theorem dX8_tellChord_47 : decode cX8_tellChord 47 = .ok (.getfield 48, 3) := by decide +kernel
theorem dX8_tellChord_50 : decode cX8_tellChord 50 = .ok (.iload_n 1, 1) := by decide +kernel
theorem dX8_tellChord_51 : decode cX8_tellChord 51 = .ok (.invokevirtual 290, 3) := by decide +kernel
theorem dX8_tellChord_54 : decode cX8_tellChord 54 = .ok (.ireturn, 1) := by decide +kernel
def R_X8_tellChord (a1 : Int32) (a2 : Int32) (σ : kS) (x : Int32) (τ : kS) : Prop := Run SX jX8_tellChord [(.ref 0), (.int a1), (.int a2)] σ (some (.int x)) τ
set_option maxRecDepth 20000 in
theorem t_X8_tellChord {a1 : Int32} {a2 : Int32} {σ : kS} {x : Int32} {τ : kS}  (h : (a2.toInt = 0 → ∃ (x3 : Int32) (s2 : kS), R_X2_shapeOf a1 σ x3 s2 ∧ (x = x3 ∧ τ = s2)) ∧ (¬ a2.toInt = 0 → (a2.toInt = 1 → ∃ (x5 : Int32) (s4 : kS), R_X2_rootOf a1 σ x5 s4 ∧ (x = x5 ∧ τ = s4)) ∧ (¬ a2.toInt = 1 → ∃ (x7 : Int32) (s6 : kS), R_X2_missingOf a1 σ x7 s6 ∧ (x = x7 ∧ τ = s6)))) : R_X8_tellChord a1 a2 σ x τ := by
  refine x_run [some (.ref 0), some (.int a1), some (.int a2)] (by decide +kernel) rfl (Nat.le_of_ble_eq_true rfl) ?_
  refine x_iload_n (pc := 0) 2 dX8_tellChord_0 rfl rfl ?_
  refine x_lookup (pc := 1) dX8_tellChord_1 (by decide +kernel) (by decide +kernel) (by decide) ?_
  refine k_lk_cons (fun c1 => ?_) (fun c1 => ?_)
  · replace h := h.1 c1
    refine x_aload_n (pc := 28) 0 dX8_tellChord_28 rfl rfl ?_
    refine x_getR (pc := 29) dX8_tellChord_29 fX8_48 rfl rfl ?_
    refine x_iload_n (pc := 32) 1 dX8_tellChord_32 rfl rfl ?_
    obtain ⟨x3, s2, hr, h⟩ := h
    refine x_callV (pc := 33) [(.int a1)] [] dX8_tellChord_33 ⟨⟨hX2_shapeOf.1, hX2_shapeOf.2.1, hX2_shapeOf.2.2, by decide⟩, mX8_284, vX2_shapeOf.1, vX2_shapeOf.2⟩ (ci := 2) rfl rfl rfl rfl (Nat.le_of_ble_eq_true rfl) hr ?_
    exact x_ireturn2 (pc := 36) dX8_tellChord_36 rfl h.1 h.2
  replace h := h.2 c1
  refine k_lk_cons (fun c1 => ?_) (fun c1 => ?_)
  · replace h := h.1 c1
    refine x_aload_n (pc := 37) 0 dX8_tellChord_37 rfl rfl ?_
    refine x_getR (pc := 38) dX8_tellChord_38 fX8_48 rfl rfl ?_
    refine x_iload_n (pc := 41) 1 dX8_tellChord_41 rfl rfl ?_
    obtain ⟨x5, s4, hr, h⟩ := h
    refine x_callV (pc := 42) [(.int a1)] [] dX8_tellChord_42 ⟨⟨hX2_rootOf.1, hX2_rootOf.2.1, hX2_rootOf.2.2, by decide⟩, mX8_287, vX2_rootOf.1, vX2_rootOf.2⟩ (ci := 2) rfl rfl rfl rfl (Nat.le_of_ble_eq_true rfl) hr ?_
    exact x_ireturn2 (pc := 45) dX8_tellChord_45 rfl h.1 h.2
  replace h := h.2 c1
  refine k_lk_nil ?_
  refine x_aload_n (pc := 46) 0 dX8_tellChord_46 rfl rfl ?_
  refine x_getR (pc := 47) dX8_tellChord_47 fX8_48 rfl rfl ?_
  refine x_iload_n (pc := 50) 1 dX8_tellChord_50 rfl rfl ?_
  obtain ⟨x7, s6, hr, h⟩ := h
  refine x_callV (pc := 51) [(.int a1)] [] dX8_tellChord_51 ⟨⟨hX2_missingOf.1, hX2_missingOf.2.1, hX2_missingOf.2.2, by decide⟩, mX8_290, vX2_missingOf.1, vX2_missingOf.2⟩ (ci := 2) rfl rfl rfl rfl (Nat.le_of_ble_eq_true rfl) hr ?_
  exact x_ireturn2 (pc := 54) dX8_tellChord_54 rfl h.1 h.2
theorem dX8_field_0 : decode cX8_field 0 = .ok (.aload_n 0, 1) := by decide +kernel
theorem dX8_field_1 : decode cX8_field 1 = .ok (.iload_n 1, 1) := by decide +kernel
theorem dX8_field_2 : decode cX8_field 2 = .ok (.invokevirtual 103, 3) := by decide +kernel
theorem dX8_field_5 : decode cX8_field 5 = .ok (.ifCond .eq 11, 3) := by decide +kernel
theorem dX8_field_8 : decode cX8_field 8 = .ok (.iload_n 2, 1) := by decide +kernel
theorem dX8_field_9 : decode cX8_field 9 = .ok (.iconst 5, 1) := by decide +kernel
theorem dX8_field_10 : decode cX8_field 10 = .ok (.invokestatic 70, 3) := by decide +kernel
theorem dX8_field_13 : decode cX8_field 13 = .ok (.ifCond .ne 5, 3) := by decide +kernel
theorem dX8_field_16 : decode cX8_field 16 = .ok (.iconst (-1), 1) := by decide +kernel
theorem dX8_field_17 : decode cX8_field 17 = .ok (.ireturn, 1) := by decide +kernel
theorem dX8_field_18 : decode cX8_field 18 = .ok (.iload_n 2, 1) := by decide +kernel
theorem dX8_field_19 : decode cX8_field 19 = .ok (.lookupswitch 44 #[(0, 25), (4, 35)], 25) := by decide +kernel
theorem dX8_field_44 : decode cX8_field 44 = .ok (.aload_n 0, 1) := by decide +kernel
theorem dX8_field_45 : decode cX8_field 45 = .ok (.getfield 19, 3) := by decide +kernel
theorem dX8_field_48 : decode cX8_field 48 = .ok (.getfield 107, 3) := by decide +kernel
theorem dX8_field_51 : decode cX8_field 51 = .ok (.iload_n 1, 1) := by decide +kernel
theorem dX8_field_52 : decode cX8_field 52 = .ok (.iaload, 1) := by decide +kernel
theorem dX8_field_53 : decode cX8_field 53 = .ok (.ireturn, 1) := by decide +kernel
theorem dX8_field_54 : decode cX8_field 54 = .ok (.aload_n 0, 1) := by decide +kernel
theorem dX8_field_55 : decode cX8_field 55 = .ok (.getfield 19, 3) := by decide +kernel
theorem dX8_field_58 : decode cX8_field 58 = .ok (.iload_n 1, 1) := by decide +kernel
theorem dX8_field_59 : decode cX8_field 59 = .ok (.invokevirtual 110, 3) := by decide +kernel
theorem dX8_field_62 : decode cX8_field 62 = .ok (.ireturn, 1) := by decide +kernel
theorem dX8_field_63 : decode cX8_field 63 = .ok (.aload_n 0, 1) := by decide +kernel
theorem dX8_field_64 : decode cX8_field 64 = .ok (.aload_n 0, 1) := by decide +kernel
theorem dX8_field_65 : decode cX8_field 65 = .ok (.getfield 19, 3) := by decide +kernel
theorem dX8_field_68 : decode cX8_field 68 = .ok (.getfield 107, 3) := by decide +kernel
theorem dX8_field_71 : decode cX8_field 71 = .ok (.iload_n 1, 1) := by decide +kernel
theorem dX8_field_72 : decode cX8_field 72 = .ok (.iaload, 1) := by decide +kernel
theorem dX8_field_73 : decode cX8_field 73 = .ok (.iload_n 2, 1) := by decide +kernel
theorem dX8_field_74 : decode cX8_field 74 = .ok (.iconst 1, 1) := by decide +kernel
theorem dX8_field_75 : decode cX8_field 75 = .ok (.isub, 1) := by decide +kernel
theorem dX8_field_76 : decode cX8_field 76 = .ok (.invokevirtual 113, 3) := by decide +kernel
theorem dX8_field_79 : decode cX8_field 79 = .ok (.ireturn, 1) := by decide +kernel
def R_X8_field (a1 : Int32) (a2 : Int32) (σ : kS) (x : Int32) (τ : kS) : Prop := Run SX jX8_field [(.ref 0), (.int a1), (.int a2)] σ (some (.int x)) τ
set_option maxRecDepth 20000 in
theorem t_X8_field {a1 : Int32} {a2 : Int32} {σ : kS} {x : Int32} {τ : kS}  (h : (¬ (wn a1 (σ.1 3 1)) → x = (-1 : Int32) ∧ τ = σ) ∧ ((wn a1 (σ.1 3 1)) → ((wn a2 (5 : Int32)) → (a2.toInt = 0 → vp_in a1 5 ∧ (x = (σ.1 5 a1.toNatClampNeg) ∧ τ = σ)) ∧ (¬ a2.toInt = 0 → (a2.toInt = 4 → ∃ (x6 : Int32) (s5 : kS), R_X7_standing 3 a1 σ x6 s5 ∧ (x = x6 ∧ τ = s5)) ∧ (¬ a2.toInt = 4 → vp_in a1 5 ∧ (∃ (x9 : Int32) (s8 : kS), R_X8_tellChord (σ.1 5 a1.toNatClampNeg) (a2 - (1 : Int32)) σ x9 s8 ∧ (x = x9 ∧ τ = s8))))) ∧ (¬ (wn a2 (5 : Int32)) → x = (-1 : Int32) ∧ τ = σ))) : R_X8_field a1 a2 σ x τ := by
  refine x_run [some (.ref 0), some (.int a1), some (.int a2)] (by decide +kernel) rfl (Nat.le_of_ble_eq_true rfl) ?_
  refine x_aload_n (pc := 0) 0 dX8_field_0 rfl rfl ?_
  refine x_iload_n (pc := 1) 1 dX8_field_1 rfl rfl ?_
  refine x_callV (pc := 2) [(.int a1)] [] dX8_field_2 ⟨⟨hX8_isField.1, hX8_isField.2.1, hX8_isField.2.2, by decide⟩, mX8_103, vX8_isField.1, vX8_isField.2⟩ (ci := 8) rfl rfl rfl rfl (Nat.le_of_ble_eq_true rfl) (i_X8_isField) ?_
  refine x_bif_eq (pc := 5) 16 dX8_field_5 (by decide) (fun c1 => ?_) (fun c1 => ?_)
  · replace h := h.1 c1
    refine x_iconst (pc := 16) (-1 : Int32) dX8_field_16 (by decide +kernel) ?_
    exact x_ireturn2 (pc := 17) dX8_field_17 rfl h.1 h.2
  · replace h := h.2 c1
    refine x_iload_n (pc := 8) 2 dX8_field_8 rfl rfl ?_
    refine x_iconst (pc := 9) (5 : Int32) dX8_field_9 (by decide +kernel) ?_
    refine x_callS (pc := 10) [(.int a2), (.int (5 : Int32))] [] dX8_field_10 ⟨⟨hX8_within.1, hX8_within.2.1, hX8_within.2.2, by decide⟩, mX8_70, sX8_within⟩ rfl rfl (Nat.le_of_ble_eq_true rfl) (i_X8_within) ?_
    refine x_bif_ne (pc := 13) 18 dX8_field_13 (by decide) (fun c2 => ?_) (fun c2 => ?_)
    · replace h := h.1 c2
      refine x_iload_n (pc := 18) 2 dX8_field_18 rfl rfl ?_
      refine x_lookup (pc := 19) dX8_field_19 (by decide +kernel) (by decide +kernel) (by decide) ?_
      refine k_lk_cons (fun c3 => ?_) (fun c3 => ?_)
      · replace h := h.1 c3
        refine x_aload_n (pc := 44) 0 dX8_field_44 rfl rfl ?_
        refine x_getR (pc := 45) dX8_field_45 fX8_19 rfl rfl ?_
        refine x_getR (pc := 48) dX8_field_48 fX8_107 rfl rfl ?_
        refine x_iload_n (pc := 51) 1 dX8_field_51 rfl rfl ?_
        obtain ⟨g4, h⟩ := h
        refine x_iaload (pc := 52) (n := 5) dX8_field_52 rfl g4 ?_
        exact x_ireturn2 (pc := 53) dX8_field_53 rfl h.1 h.2
      replace h := h.2 c3
      refine k_lk_cons (fun c3 => ?_) (fun c3 => ?_)
      · replace h := h.1 c3
        refine x_aload_n (pc := 54) 0 dX8_field_54 rfl rfl ?_
        refine x_getR (pc := 55) dX8_field_55 fX8_19 rfl rfl ?_
        refine x_iload_n (pc := 58) 1 dX8_field_58 rfl rfl ?_
        obtain ⟨x6, s5, hr, h⟩ := h
        refine x_callV (pc := 59) [(.int a1)] [] dX8_field_59 ⟨⟨hX7_standing.1, hX7_standing.2.1, hX7_standing.2.2, by decide⟩, mX8_110, vX7_standing.1, vX7_standing.2⟩ (ci := 7) rfl rfl rfl rfl (Nat.le_of_ble_eq_true rfl) hr ?_
        exact x_ireturn2 (pc := 62) dX8_field_62 rfl h.1 h.2
      replace h := h.2 c3
      refine k_lk_nil ?_
      refine x_aload_n (pc := 63) 0 dX8_field_63 rfl rfl ?_
      refine x_aload_n (pc := 64) 0 dX8_field_64 rfl rfl ?_
      refine x_getR (pc := 65) dX8_field_65 fX8_19 rfl rfl ?_
      refine x_getR (pc := 68) dX8_field_68 fX8_107 rfl rfl ?_
      refine x_iload_n (pc := 71) 1 dX8_field_71 rfl rfl ?_
      obtain ⟨g7, h⟩ := h
      refine x_iaload (pc := 72) (n := 5) dX8_field_72 rfl g7 ?_
      refine x_iload_n (pc := 73) 2 dX8_field_73 rfl rfl ?_
      refine x_iconst (pc := 74) (1 : Int32) dX8_field_74 (by decide +kernel) ?_
      refine x_isub (pc := 75) dX8_field_75 ?_
      obtain ⟨x9, s8, hr, h⟩ := h
      refine x_callV (pc := 76) [(.int (σ.1 5 a1.toNatClampNeg)), (.int (a2 - (1 : Int32)))] [] dX8_field_76 ⟨⟨hX8_tellChord.1, hX8_tellChord.2.1, hX8_tellChord.2.2, by decide⟩, mX8_113, vX8_tellChord.1, vX8_tellChord.2⟩ (ci := 8) rfl rfl rfl rfl (Nat.le_of_ble_eq_true rfl) hr ?_
      exact x_ireturn2 (pc := 79) dX8_field_79 rfl h.1 h.2
    · replace h := h.2 c2
      refine x_iconst (pc := 16) (-1 : Int32) dX8_field_16 (by decide +kernel) ?_
      exact x_ireturn2 (pc := 17) dX8_field_17 rfl h.1 h.2
theorem dX8_singer_0 : decode cX8_singer 0 = .ok (.aload_n 0, 1) := by decide +kernel
theorem dX8_singer_1 : decode cX8_singer 1 = .ok (.iload_n 1, 1) := by decide +kernel
theorem dX8_singer_2 : decode cX8_singer 2 = .ok (.invokevirtual 117, 3) := by decide +kernel
theorem dX8_singer_5 : decode cX8_singer 5 = .ok (.ifCond .eq 11, 3) := by decide +kernel
theorem dX8_singer_8 : decode cX8_singer 8 = .ok (.iload_n 2, 1) := by decide +kernel
theorem dX8_singer_9 : decode cX8_singer 9 = .ok (.iconst 5, 1) := by decide +kernel
theorem dX8_singer_10 : decode cX8_singer 10 = .ok (.invokestatic 70, 3) := by decide +kernel
theorem dX8_singer_13 : decode cX8_singer 13 = .ok (.ifCond .ne 5, 3) := by decide +kernel
theorem dX8_singer_16 : decode cX8_singer 16 = .ok (.iconst (-1), 1) := by decide +kernel
theorem dX8_singer_17 : decode cX8_singer 17 = .ok (.ireturn, 1) := by decide +kernel
theorem dX8_singer_18 : decode cX8_singer 18 = .ok (.iload_n 2, 1) := by decide +kernel
theorem dX8_singer_19 : decode cX8_singer 19 = .ok (.tableswitch 69 0 3 #[29, 39, 49, 59], 29) := by decide +kernel
theorem dX8_singer_48 : decode cX8_singer 48 = .ok (.aload_n 0, 1) := by decide +kernel
theorem dX8_singer_49 : decode cX8_singer 49 = .ok (.getfield 19, 3) := by decide +kernel
theorem dX8_singer_52 : decode cX8_singer 52 = .ok (.getfield 120, 3) := by decide +kernel
theorem dX8_singer_55 : decode cX8_singer 55 = .ok (.iload_n 1, 1) := by decide +kernel
theorem dX8_singer_56 : decode cX8_singer 56 = .ok (.iaload, 1) := by decide +kernel
theorem dX8_singer_57 : decode cX8_singer 57 = .ok (.ireturn, 1) := by decide +kernel
theorem dX8_singer_58 : decode cX8_singer 58 = .ok (.aload_n 0, 1) := by decide +kernel
theorem dX8_singer_59 : decode cX8_singer 59 = .ok (.getfield 19, 3) := by decide +kernel
theorem dX8_singer_62 : decode cX8_singer 62 = .ok (.getfield 123, 3) := by decide +kernel
theorem dX8_singer_65 : decode cX8_singer 65 = .ok (.iload_n 1, 1) := by decide +kernel
theorem dX8_singer_66 : decode cX8_singer 66 = .ok (.iaload, 1) := by decide +kernel
theorem dX8_singer_67 : decode cX8_singer 67 = .ok (.ireturn, 1) := by decide +kernel
theorem dX8_singer_68 : decode cX8_singer 68 = .ok (.aload_n 0, 1) := by decide +kernel
theorem dX8_singer_69 : decode cX8_singer 69 = .ok (.getfield 19, 3) := by decide +kernel
theorem dX8_singer_72 : decode cX8_singer 72 = .ok (.getfield 126, 3) := by decide +kernel
theorem dX8_singer_75 : decode cX8_singer 75 = .ok (.iload_n 1, 1) := by decide +kernel
theorem dX8_singer_76 : decode cX8_singer 76 = .ok (.iaload, 1) := by decide +kernel
theorem dX8_singer_77 : decode cX8_singer 77 = .ok (.ireturn, 1) := by decide +kernel
theorem dX8_singer_78 : decode cX8_singer 78 = .ok (.aload_n 0, 1) := by decide +kernel
theorem dX8_singer_79 : decode cX8_singer 79 = .ok (.getfield 19, 3) := by decide +kernel
theorem dX8_singer_82 : decode cX8_singer 82 = .ok (.getfield 129, 3) := by decide +kernel
theorem dX8_singer_85 : decode cX8_singer 85 = .ok (.iload_n 1, 1) := by decide +kernel
theorem dX8_singer_86 : decode cX8_singer 86 = .ok (.iaload, 1) := by decide +kernel
theorem dX8_singer_87 : decode cX8_singer 87 = .ok (.ireturn, 1) := by decide +kernel
theorem dX8_singer_88 : decode cX8_singer 88 = .ok (.aload_n 0, 1) := by decide +kernel
theorem dX8_singer_89 : decode cX8_singer 89 = .ok (.getfield 19, 3) := by decide +kernel
theorem dX8_singer_92 : decode cX8_singer 92 = .ok (.getfield 132, 3) := by decide +kernel
theorem dX8_singer_95 : decode cX8_singer 95 = .ok (.iload_n 1, 1) := by decide +kernel
theorem dX8_singer_96 : decode cX8_singer 96 = .ok (.iaload, 1) := by decide +kernel
theorem dX8_singer_97 : decode cX8_singer 97 = .ok (.invokestatic 134, 3) := by decide +kernel
theorem dX8_singer_100 : decode cX8_singer 100 = .ok (.ireturn, 1) := by decide +kernel
def R_X8_singer (a1 : Int32) (a2 : Int32) (σ : kS) (x : Int32) (τ : kS) : Prop := Run SX jX8_singer [(.ref 0), (.int a1), (.int a2)] σ (some (.int x)) τ
set_option maxRecDepth 20000 in
theorem t_X8_singer {a1 : Int32} {a2 : Int32} {σ : kS} {x : Int32} {τ : kS}  (h : (¬ (wn a1 (σ.1 3 2)) → x = (-1 : Int32) ∧ τ = σ) ∧ ((wn a1 (σ.1 3 2)) → ((wn a2 (5 : Int32)) → (a2.toInt = 0 → vp_in a1 5 ∧ (x = (σ.1 6 a1.toNatClampNeg) ∧ τ = σ)) ∧ (a2.toInt = 1 → vp_in a1 5 ∧ (x = (σ.1 7 a1.toNatClampNeg) ∧ τ = σ)) ∧ (a2.toInt = 2 → vp_in a1 5 ∧ (x = (σ.1 8 a1.toNatClampNeg) ∧ τ = σ)) ∧ (a2.toInt = 3 → vp_in a1 5 ∧ (x = (σ.1 10 a1.toNatClampNeg) ∧ τ = σ)) ∧ ((a2.toInt < 0 ∨ 3 < a2.toInt) → vp_in a1 5 ∧ (x = (tP (σ.1 9 a1.toNatClampNeg)) ∧ τ = σ))) ∧ (¬ (wn a2 (5 : Int32)) → x = (-1 : Int32) ∧ τ = σ))) : R_X8_singer a1 a2 σ x τ := by
  refine x_run [some (.ref 0), some (.int a1), some (.int a2)] (by decide +kernel) rfl (Nat.le_of_ble_eq_true rfl) ?_
  refine x_aload_n (pc := 0) 0 dX8_singer_0 rfl rfl ?_
  refine x_iload_n (pc := 1) 1 dX8_singer_1 rfl rfl ?_
  refine x_callV (pc := 2) [(.int a1)] [] dX8_singer_2 ⟨⟨hX8_isSinger.1, hX8_isSinger.2.1, hX8_isSinger.2.2, by decide⟩, mX8_117, vX8_isSinger.1, vX8_isSinger.2⟩ (ci := 8) rfl rfl rfl rfl (Nat.le_of_ble_eq_true rfl) (i_X8_isSinger) ?_
  refine x_bif_eq (pc := 5) 16 dX8_singer_5 (by decide) (fun c1 => ?_) (fun c1 => ?_)
  · replace h := h.1 c1
    refine x_iconst (pc := 16) (-1 : Int32) dX8_singer_16 (by decide +kernel) ?_
    exact x_ireturn2 (pc := 17) dX8_singer_17 rfl h.1 h.2
  · replace h := h.2 c1
    refine x_iload_n (pc := 8) 2 dX8_singer_8 rfl rfl ?_
    refine x_iconst (pc := 9) (5 : Int32) dX8_singer_9 (by decide +kernel) ?_
    refine x_callS (pc := 10) [(.int a2), (.int (5 : Int32))] [] dX8_singer_10 ⟨⟨hX8_within.1, hX8_within.2.1, hX8_within.2.2, by decide⟩, mX8_70, sX8_within⟩ rfl rfl (Nat.le_of_ble_eq_true rfl) (i_X8_within) ?_
    refine x_bif_ne (pc := 13) 18 dX8_singer_13 (by decide) (fun c2 => ?_) (fun c2 => ?_)
    · replace h := h.1 c2
      refine x_iload_n (pc := 18) 2 dX8_singer_18 rfl rfl ?_
      refine x_table (pc := 19) 88 dX8_singer_19 (by decide +kernel) (by decide +kernel) (by decide) (k_tb_cons (fun c3 => ?_) (k_tb_cons (fun c3 => ?_) (k_tb_cons (fun c3 => ?_) (k_tb_cons (fun c3 => ?_) k_tb_nil)))) (fun c3 => ?_)
      · replace h := h.1 c3
        refine x_aload_n (pc := 48) 0 dX8_singer_48 rfl rfl ?_
        refine x_getR (pc := 49) dX8_singer_49 fX8_19 rfl rfl ?_
        refine x_getR (pc := 52) dX8_singer_52 fX8_120 rfl rfl ?_
        refine x_iload_n (pc := 55) 1 dX8_singer_55 rfl rfl ?_
        obtain ⟨g4, h⟩ := h
        refine x_iaload (pc := 56) (n := 5) dX8_singer_56 rfl g4 ?_
        exact x_ireturn2 (pc := 57) dX8_singer_57 rfl h.1 h.2
      · replace h := h.2.1 c3
        refine x_aload_n (pc := 58) 0 dX8_singer_58 rfl rfl ?_
        refine x_getR (pc := 59) dX8_singer_59 fX8_19 rfl rfl ?_
        refine x_getR (pc := 62) dX8_singer_62 fX8_123 rfl rfl ?_
        refine x_iload_n (pc := 65) 1 dX8_singer_65 rfl rfl ?_
        obtain ⟨g5, h⟩ := h
        refine x_iaload (pc := 66) (n := 5) dX8_singer_66 rfl g5 ?_
        exact x_ireturn2 (pc := 67) dX8_singer_67 rfl h.1 h.2
      · replace h := h.2.2.1 c3
        refine x_aload_n (pc := 68) 0 dX8_singer_68 rfl rfl ?_
        refine x_getR (pc := 69) dX8_singer_69 fX8_19 rfl rfl ?_
        refine x_getR (pc := 72) dX8_singer_72 fX8_126 rfl rfl ?_
        refine x_iload_n (pc := 75) 1 dX8_singer_75 rfl rfl ?_
        obtain ⟨g6, h⟩ := h
        refine x_iaload (pc := 76) (n := 5) dX8_singer_76 rfl g6 ?_
        exact x_ireturn2 (pc := 77) dX8_singer_77 rfl h.1 h.2
      · replace h := h.2.2.2.1 c3
        refine x_aload_n (pc := 78) 0 dX8_singer_78 rfl rfl ?_
        refine x_getR (pc := 79) dX8_singer_79 fX8_19 rfl rfl ?_
        refine x_getR (pc := 82) dX8_singer_82 fX8_129 rfl rfl ?_
        refine x_iload_n (pc := 85) 1 dX8_singer_85 rfl rfl ?_
        obtain ⟨g7, h⟩ := h
        refine x_iaload (pc := 86) (n := 5) dX8_singer_86 rfl g7 ?_
        exact x_ireturn2 (pc := 87) dX8_singer_87 rfl h.1 h.2
      · replace h := h.2.2.2.2 c3
        refine x_aload_n (pc := 88) 0 dX8_singer_88 rfl rfl ?_
        refine x_getR (pc := 89) dX8_singer_89 fX8_19 rfl rfl ?_
        refine x_getR (pc := 92) dX8_singer_92 fX8_132 rfl rfl ?_
        refine x_iload_n (pc := 95) 1 dX8_singer_95 rfl rfl ?_
        obtain ⟨g8, h⟩ := h
        refine x_iaload (pc := 96) (n := 5) dX8_singer_96 rfl g8 ?_
        refine x_callS (pc := 97) [(.int (σ.1 9 a1.toNatClampNeg))] [] dX8_singer_97 ⟨⟨hX8_tellPlace.1, hX8_tellPlace.2.1, hX8_tellPlace.2.2, by decide⟩, mX8_134, sX8_tellPlace⟩ rfl rfl (Nat.le_of_ble_eq_true rfl) (i_X8_tellPlace) ?_
        exact x_ireturn2 (pc := 100) dX8_singer_100 rfl h.1 h.2
    · replace h := h.2 c2
      refine x_iconst (pc := 16) (-1 : Int32) dX8_singer_16 (by decide +kernel) ?_
      exact x_ireturn2 (pc := 17) dX8_singer_17 rfl h.1 h.2
theorem dX8_as_0 : decode cX8_as 0 = .ok (.aload_n 0, 1) := by decide +kernel
theorem dX8_as_1 : decode cX8_as 1 = .ok (.iload_n 1, 1) := by decide +kernel
theorem dX8_as_2 : decode cX8_as 2 = .ok (.invokevirtual 117, 3) := by decide +kernel
theorem dX8_as_5 : decode cX8_as 5 = .ok (.ifCond .eq 12, 3) := by decide +kernel
theorem dX8_as_8 : decode cX8_as 8 = .ok (.iload_n 2, 1) := by decide +kernel
theorem dX8_as_9 : decode cX8_as 9 = .ok (.bipush 6, 2) := by decide +kernel
theorem dX8_as_11 : decode cX8_as 11 = .ok (.invokestatic 70, 3) := by decide +kernel
theorem dX8_as_14 : decode cX8_as 14 = .ok (.ifCond .ne 5, 3) := by decide +kernel
theorem dX8_as_17 : decode cX8_as 17 = .ok (.iconst (-1), 1) := by decide +kernel
theorem dX8_as_18 : decode cX8_as 18 = .ok (.ireturn, 1) := by decide +kernel
theorem dX8_as_19 : decode cX8_as 19 = .ok (.getstatic 137, 3) := by decide +kernel
theorem dX8_as_22 : decode cX8_as 22 = .ok (.aload_n 0, 1) := by decide +kernel
theorem dX8_as_23 : decode cX8_as 23 = .ok (.getfield 19, 3) := by decide +kernel
theorem dX8_as_26 : decode cX8_as 26 = .ok (.getfield 120, 3) := by decide +kernel
theorem dX8_as_29 : decode cX8_as 29 = .ok (.iload_n 1, 1) := by decide +kernel
theorem dX8_as_30 : decode cX8_as 30 = .ok (.iaload, 1) := by decide +kernel
theorem dX8_as_31 : decode cX8_as 31 = .ok (.iaload, 1) := by decide +kernel
theorem dX8_as_32 : decode cX8_as 32 = .ok (.iload_n 2, 1) := by decide +kernel
theorem dX8_as_33 : decode cX8_as 33 = .ok (.invokestatic 140, 3) := by decide +kernel
theorem dX8_as_36 : decode cX8_as 36 = .ok (.ifCond .eq 7, 3) := by decide +kernel
theorem dX8_as_39 : decode cX8_as 39 = .ok (.iload_n 1, 1) := by decide +kernel
theorem dX8_as_40 : decode cX8_as 40 = .ok (.goto 5, 3) := by decide +kernel
theorem dX8_as_43 : decode cX8_as 43 = .ok (.bipush (-12), 2) := by decide +kernel
theorem dX8_as_45 : decode cX8_as 45 = .ok (.ireturn, 1) := by decide +kernel
def R_X8_as (a1 : Int32) (a2 : Int32) (σ : kS) (x : Int32) (τ : kS) : Prop := Run SX jX8_as [(.ref 0), (.int a1), (.int a2)] σ (some (.int x)) τ
set_option maxRecDepth 20000 in
theorem t_X8_as {a1 : Int32} {a2 : Int32} {σ : kS} {x : Int32} {τ : kS}  (h : (¬ (wn a1 (σ.1 3 2)) → x = (-1 : Int32) ∧ τ = σ) ∧ ((wn a1 (σ.1 3 2)) → ((wn a2 (6 : Int32)) → vp_in a1 5 ∧ (vp_in (σ.1 6 a1.toNatClampNeg) 6 ∧ ((¬ (hs (k_tIS (σ.1 6 a1.toNatClampNeg).toNatClampNeg) a2) → x = (-12 : Int32) ∧ τ = σ) ∧ ((hs (k_tIS (σ.1 6 a1.toNatClampNeg).toNatClampNeg) a2) → x = a1 ∧ τ = σ)))) ∧ (¬ (wn a2 (6 : Int32)) → x = (-1 : Int32) ∧ τ = σ))) : R_X8_as a1 a2 σ x τ := by
  refine x_run [some (.ref 0), some (.int a1), some (.int a2)] (by decide +kernel) rfl (Nat.le_of_ble_eq_true rfl) ?_
  refine x_aload_n (pc := 0) 0 dX8_as_0 rfl rfl ?_
  refine x_iload_n (pc := 1) 1 dX8_as_1 rfl rfl ?_
  refine x_callV (pc := 2) [(.int a1)] [] dX8_as_2 ⟨⟨hX8_isSinger.1, hX8_isSinger.2.1, hX8_isSinger.2.2, by decide⟩, mX8_117, vX8_isSinger.1, vX8_isSinger.2⟩ (ci := 8) rfl rfl rfl rfl (Nat.le_of_ble_eq_true rfl) (i_X8_isSinger) ?_
  refine x_bif_eq (pc := 5) 17 dX8_as_5 (by decide) (fun c1 => ?_) (fun c1 => ?_)
  · replace h := h.1 c1
    refine x_iconst (pc := 17) (-1 : Int32) dX8_as_17 (by decide +kernel) ?_
    exact x_ireturn2 (pc := 18) dX8_as_18 rfl h.1 h.2
  · replace h := h.2 c1
    refine x_iload_n (pc := 8) 2 dX8_as_8 rfl rfl ?_
    refine x_bipush (pc := 9) (6 : Int32) dX8_as_9 (by decide +kernel) ?_
    refine x_callS (pc := 11) [(.int a2), (.int (6 : Int32))] [] dX8_as_11 ⟨⟨hX8_within.1, hX8_within.2.1, hX8_within.2.2, by decide⟩, mX8_70, sX8_within⟩ rfl rfl (Nat.le_of_ble_eq_true rfl) (i_X8_within) ?_
    refine x_bif_ne (pc := 14) 19 dX8_as_14 (by decide) (fun c2 => ?_) (fun c2 => ?_)
    · replace h := h.1 c2
      refine x_getS (pc := 19) dX8_as_19 (List.mem_of_getElem? (i := 0) rfl) gX8_137 ?_
      refine x_aload_n (pc := 22) 0 dX8_as_22 rfl rfl ?_
      refine x_getR (pc := 23) dX8_as_23 fX8_19 rfl rfl ?_
      refine x_getR (pc := 26) dX8_as_26 fX8_120 rfl rfl ?_
      refine x_iload_n (pc := 29) 1 dX8_as_29 rfl rfl ?_
      obtain ⟨g3, h⟩ := h
      refine x_iaload (pc := 30) (n := 5) dX8_as_30 rfl g3 ?_
      obtain ⟨g4, h⟩ := h
      refine x_ialoadS (pc := 31) dX8_as_31 (List.mem_of_getElem? (i := 0) rfl) g4 ?_
      refine x_iload_n (pc := 32) 2 dX8_as_32 rfl rfl ?_
      refine x_callS (pc := 33) [(.int (k_tIS (σ.1 6 a1.toNatClampNeg).toNatClampNeg)), (.int a2)] [] dX8_as_33 ⟨⟨hX8_has.1, hX8_has.2.1, hX8_has.2.2, by decide⟩, mX8_140, sX8_has⟩ rfl rfl (Nat.le_of_ble_eq_true rfl) (i_X8_has) ?_
      refine x_bif_eq (pc := 36) 43 dX8_as_36 (by decide) (fun c5 => ?_) (fun c5 => ?_)
      · replace h := h.1 c5
        refine x_bipush (pc := 43) (-12 : Int32) dX8_as_43 (by decide +kernel) ?_
        exact x_ireturn2 (pc := 45) dX8_as_45 rfl h.1 h.2
      · replace h := h.2 c5
        refine x_iload_n (pc := 39) 1 dX8_as_39 rfl rfl ?_
        refine x_goto (pc := 40) 45 dX8_as_40 (by decide) ?_
        exact x_ireturn2 (pc := 45) dX8_as_45 rfl h.1 h.2
    · replace h := h.2 c2
      refine x_iconst (pc := 17) (-1 : Int32) dX8_as_17 (by decide +kernel) ?_
      exact x_ireturn2 (pc := 18) dX8_as_18 rfl h.1 h.2
theorem dX8_chord_0 : decode cX8_chord 0 = .ok (.iload_n 1, 1) := by decide +kernel
theorem dX8_chord_1 : decode cX8_chord 1 = .ok (.sipush 4096, 3) := by decide +kernel
theorem dX8_chord_4 : decode cX8_chord 4 = .ok (.invokestatic 70, 3) := by decide +kernel
theorem dX8_chord_7 : decode cX8_chord 7 = .ok (.ifCond .eq 21, 3) := by decide +kernel
theorem dX8_chord_10 : decode cX8_chord 10 = .ok (.iload_n 2, 1) := by decide +kernel
theorem dX8_chord_11 : decode cX8_chord 11 = .ok (.iconst 3, 1) := by decide +kernel
theorem dX8_chord_12 : decode cX8_chord 12 = .ok (.invokestatic 70, 3) := by decide +kernel
theorem dX8_chord_15 : decode cX8_chord 15 = .ok (.ifCond .eq 13, 3) := by decide +kernel
theorem dX8_chord_18 : decode cX8_chord 18 = .ok (.aload_n 0, 1) := by decide +kernel
theorem dX8_chord_19 : decode cX8_chord 19 = .ok (.getfield 19, 3) := by decide +kernel
theorem dX8_chord_22 : decode cX8_chord 22 = .ok (.invokevirtual 143, 3) := by decide +kernel
theorem dX8_chord_25 : decode cX8_chord 25 = .ok (.ifCond .ne 5, 3) := by decide +kernel
theorem dX8_chord_28 : decode cX8_chord 28 = .ok (.iconst (-1), 1) := by decide +kernel
theorem dX8_chord_29 : decode cX8_chord 29 = .ok (.ireturn, 1) := by decide +kernel
theorem dX8_chord_30 : decode cX8_chord 30 = .ok (.aload_n 0, 1) := by decide +kernel
theorem dX8_chord_31 : decode cX8_chord 31 = .ok (.iload_n 1, 1) := by decide +kernel
theorem dX8_chord_32 : decode cX8_chord 32 = .ok (.iload_n 2, 1) := by decide +kernel
theorem dX8_chord_33 : decode cX8_chord 33 = .ok (.invokevirtual 113, 3) := by decide +kernel
theorem dX8_chord_36 : decode cX8_chord 36 = .ok (.ireturn, 1) := by decide +kernel
def R_X8_chord (a1 : Int32) (a2 : Int32) (σ : kS) (x : Int32) (τ : kS) : Prop := Run SX jX8_chord [(.ref 0), (.int a1), (.int a2)] σ (some (.int x)) τ
set_option maxRecDepth 20000 in
theorem t_X8_chord {a1 : Int32} {a2 : Int32} {σ : kS} {x : Int32} {τ : kS}  (h : (¬ (wn a1 (4096 : Int32)) → x = (-1 : Int32) ∧ τ = σ) ∧ ((wn a1 (4096 : Int32)) → (¬ (wn a2 (3 : Int32)) → x = (-1 : Int32) ∧ τ = σ) ∧ ((wn a2 (3 : Int32)) → ((0 < (σ.1 3 1) ∧ 0 < (σ.1 3 2)) → ∃ (x5 : Int32) (s4 : kS), R_X8_tellChord a1 a2 σ x5 s4 ∧ (x = x5 ∧ τ = s4)) ∧ (¬ (0 < (σ.1 3 1) ∧ 0 < (σ.1 3 2)) → x = (-1 : Int32) ∧ τ = σ)))) : R_X8_chord a1 a2 σ x τ := by
  refine x_run [some (.ref 0), some (.int a1), some (.int a2)] (by decide +kernel) rfl (Nat.le_of_ble_eq_true rfl) ?_
  refine x_iload_n (pc := 0) 1 dX8_chord_0 rfl rfl ?_
  refine x_sipush (pc := 1) (4096 : Int32) dX8_chord_1 (by decide +kernel) ?_
  refine x_callS (pc := 4) [(.int a1), (.int (4096 : Int32))] [] dX8_chord_4 ⟨⟨hX8_within.1, hX8_within.2.1, hX8_within.2.2, by decide⟩, mX8_70, sX8_within⟩ rfl rfl (Nat.le_of_ble_eq_true rfl) (i_X8_within) ?_
  refine x_bif_eq (pc := 7) 28 dX8_chord_7 (by decide) (fun c1 => ?_) (fun c1 => ?_)
  · replace h := h.1 c1
    refine x_iconst (pc := 28) (-1 : Int32) dX8_chord_28 (by decide +kernel) ?_
    exact x_ireturn2 (pc := 29) dX8_chord_29 rfl h.1 h.2
  · replace h := h.2 c1
    refine x_iload_n (pc := 10) 2 dX8_chord_10 rfl rfl ?_
    refine x_iconst (pc := 11) (3 : Int32) dX8_chord_11 (by decide +kernel) ?_
    refine x_callS (pc := 12) [(.int a2), (.int (3 : Int32))] [] dX8_chord_12 ⟨⟨hX8_within.1, hX8_within.2.1, hX8_within.2.2, by decide⟩, mX8_70, sX8_within⟩ rfl rfl (Nat.le_of_ble_eq_true rfl) (i_X8_within) ?_
    refine x_bif_eq (pc := 15) 28 dX8_chord_15 (by decide) (fun c2 => ?_) (fun c2 => ?_)
    · replace h := h.1 c2
      refine x_iconst (pc := 28) (-1 : Int32) dX8_chord_28 (by decide +kernel) ?_
      exact x_ireturn2 (pc := 29) dX8_chord_29 rfl h.1 h.2
    · replace h := h.2 c2
      refine x_aload_n (pc := 18) 0 dX8_chord_18 rfl rfl ?_
      refine x_getR (pc := 19) dX8_chord_19 fX8_19 rfl rfl ?_
      refine x_callV (pc := 22) [] [] dX8_chord_22 ⟨⟨hX7_isThere.1, hX7_isThere.2.1, hX7_isThere.2.2, by decide⟩, mX8_143, vX7_isThere.1, vX7_isThere.2⟩ (ci := 7) rfl rfl rfl rfl (Nat.le_of_ble_eq_true rfl) (i_X7_isThere rfl) ?_
      refine x_bif_ne (pc := 25) 30 dX8_chord_25 (by decide) (fun c3 => ?_) (fun c3 => ?_)
      · replace h := h.1 c3
        refine x_aload_n (pc := 30) 0 dX8_chord_30 rfl rfl ?_
        refine x_iload_n (pc := 31) 1 dX8_chord_31 rfl rfl ?_
        refine x_iload_n (pc := 32) 2 dX8_chord_32 rfl rfl ?_
        obtain ⟨x5, s4, hr, h⟩ := h
        refine x_callV (pc := 33) [(.int a1), (.int a2)] [] dX8_chord_33 ⟨⟨hX8_tellChord.1, hX8_tellChord.2.1, hX8_tellChord.2.2, by decide⟩, mX8_113, vX8_tellChord.1, vX8_tellChord.2⟩ (ci := 8) rfl rfl rfl rfl (Nat.le_of_ble_eq_true rfl) hr ?_
        exact x_ireturn2 (pc := 36) dX8_chord_36 rfl h.1 h.2
      · replace h := h.2 c3
        refine x_iconst (pc := 28) (-1 : Int32) dX8_chord_28 (by decide +kernel) ?_
        exact x_ireturn2 (pc := 29) dX8_chord_29 rfl h.1 h.2
theorem dX8_hour_0 : decode cX8_hour 0 = .ok (.aload_n 0, 1) := by decide +kernel
theorem dX8_hour_1 : decode cX8_hour 1 = .ok (.getfield 19, 3) := by decide +kernel
theorem dX8_hour_4 : decode cX8_hour 4 = .ok (.invokevirtual 143, 3) := by decide +kernel
theorem dX8_hour_7 : decode cX8_hour 7 = .ok (.ifCond .eq 16, 3) := by decide +kernel
theorem dX8_hour_10 : decode cX8_hour 10 = .ok (.aload_n 0, 1) := by decide +kernel
theorem dX8_hour_11 : decode cX8_hour 11 = .ok (.getfield 19, 3) := by decide +kernel
theorem dX8_hour_14 : decode cX8_hour 14 = .ok (.getfield 147, 3) := by decide +kernel
theorem dX8_hour_17 : decode cX8_hour 17 = .ok (.sipush 9999, 3) := by decide +kernel
theorem dX8_hour_20 : decode cX8_hour 20 = .ok (.if_icmp .lt 6, 3) := by decide +kernel
theorem dX8_hour_23 : decode cX8_hour 23 = .ok (.bipush (-2), 2) := by decide +kernel
theorem dX8_hour_25 : decode cX8_hour 25 = .ok (.ireturn, 1) := by decide +kernel
theorem dX8_hour_26 : decode cX8_hour 26 = .ok (.aload_n 0, 1) := by decide +kernel
theorem dX8_hour_27 : decode cX8_hour 27 = .ok (.getfield 33, 3) := by decide +kernel
theorem dX8_hour_30 : decode cX8_hour 30 = .ok (.iconst 0, 1) := by decide +kernel
theorem dX8_hour_31 : decode cX8_hour 31 = .ok (.aload_n 0, 1) := by decide +kernel
theorem dX8_hour_32 : decode cX8_hour 32 = .ok (.getfield 19, 3) := by decide +kernel
theorem dX8_hour_35 : decode cX8_hour 35 = .ok (.invokevirtual 150, 3) := by decide +kernel
theorem dX8_hour_38 : decode cX8_hour 38 = .ok (.iconst 0, 1) := by decide +kernel
theorem dX8_hour_39 : decode cX8_hour 39 = .ok (.invokevirtual 154, 3) := by decide +kernel
theorem dX8_hour_42 : decode cX8_hour 42 = .ok (.aload_n 0, 1) := by decide +kernel
theorem dX8_hour_43 : decode cX8_hour 43 = .ok (.getfield 40, 3) := by decide +kernel
theorem dX8_hour_46 : decode cX8_hour 46 = .ok (.aload_n 0, 1) := by decide +kernel
theorem dX8_hour_47 : decode cX8_hour 47 = .ok (.getfield 19, 3) := by decide +kernel
theorem dX8_hour_50 : decode cX8_hour 50 = .ok (.invokevirtual 158, 3) := by decide +kernel
theorem dX8_hour_53 : decode cX8_hour 53 = .ok (.ireturn, 1) := by decide +kernel
def R_X8_hour  (σ : kS) (x : Int32) (τ : kS) : Prop := Run SX jX8_hour [(.ref 0)] σ (some (.int x)) τ
set_option maxRecDepth 20000 in
theorem t_X8_hour  {σ : kS} {x : Int32} {τ : kS}  (h : (¬ (0 < (σ.1 3 1) ∧ 0 < (σ.1 3 2)) → x = (-2 : Int32) ∧ τ = σ) ∧ ((0 < (σ.1 3 1) ∧ 0 < (σ.1 3 2)) → ((σ.1 3 3) < (9999 : Int32) → ∃ (x4 : Int32) (s3 : kS), R_X7_packTired 3 σ x4 s3 ∧ (∃ s5 : kS, R_X0_keep (0 : Int32) x4 (0 : Int32) s3 s5 ∧ (∃ (x7 : Int32) (s6 : kS), R_X1_passHour 3 s5 x7 s6 ∧ (x = x7 ∧ τ = s6)))) ∧ (¬ (σ.1 3 3) < (9999 : Int32) → x = (-2 : Int32) ∧ τ = σ))) : R_X8_hour  σ x τ := by
  refine x_run [some (.ref 0)] (by decide +kernel) rfl (Nat.le_of_ble_eq_true rfl) ?_
  refine x_aload_n (pc := 0) 0 dX8_hour_0 rfl rfl ?_
  refine x_getR (pc := 1) dX8_hour_1 fX8_19 rfl rfl ?_
  refine x_callV (pc := 4) [] [] dX8_hour_4 ⟨⟨hX7_isThere.1, hX7_isThere.2.1, hX7_isThere.2.2, by decide⟩, mX8_143, vX7_isThere.1, vX7_isThere.2⟩ (ci := 7) rfl rfl rfl rfl (Nat.le_of_ble_eq_true rfl) (i_X7_isThere rfl) ?_
  refine x_bif_eq (pc := 7) 23 dX8_hour_7 (by decide) (fun c1 => ?_) (fun c1 => ?_)
  · replace h := h.1 c1
    refine x_bipush (pc := 23) (-2 : Int32) dX8_hour_23 (by decide +kernel) ?_
    exact x_ireturn2 (pc := 25) dX8_hour_25 rfl h.1 h.2
  · replace h := h.2 c1
    refine x_aload_n (pc := 10) 0 dX8_hour_10 rfl rfl ?_
    refine x_getR (pc := 11) dX8_hour_11 fX8_19 rfl rfl ?_
    refine x_getI (pc := 14) dX8_hour_14 fX8_147 rfl rfl ?_
    refine x_sipush (pc := 17) (9999 : Int32) dX8_hour_17 (by decide +kernel) ?_
    refine x_icmp_lt (pc := 20) 26 dX8_hour_20 (by decide) (fun c2 => ?_) (fun c2 => ?_)
    · replace h := h.1 c2
      refine x_aload_n (pc := 26) 0 dX8_hour_26 rfl rfl ?_
      refine x_getR (pc := 27) dX8_hour_27 fX8_33 rfl rfl ?_
      refine x_iconst (pc := 30) (0 : Int32) dX8_hour_30 (by decide +kernel) ?_
      refine x_aload_n (pc := 31) 0 dX8_hour_31 rfl rfl ?_
      refine x_getR (pc := 32) dX8_hour_32 fX8_19 rfl rfl ?_
      obtain ⟨x4, s3, hr, h⟩ := h
      refine x_callV (pc := 35) [] [(.int (0 : Int32)), (.ref 20)] dX8_hour_35 ⟨⟨hX7_packTired.1, hX7_packTired.2.1, hX7_packTired.2.2, by decide⟩, mX8_150, vX7_packTired.1, vX7_packTired.2⟩ (ci := 7) rfl rfl rfl rfl (Nat.le_of_ble_eq_true rfl) hr ?_
      refine x_iconst (pc := 38) (0 : Int32) dX8_hour_38 (by decide +kernel) ?_
      obtain ⟨s5, hr, h⟩ := h
      refine x_callV (pc := 39) [(.int (0 : Int32)), (.int x4), (.int (0 : Int32))] [] dX8_hour_39 ⟨⟨hX0_keep.1, hX0_keep.2.1, hX0_keep.2.2, by decide⟩, mX8_154, vX0_keep.1, vX0_keep.2⟩ (ci := 0) rfl rfl rfl rfl (Nat.le_of_ble_eq_true rfl) hr ?_
      refine x_aload_n (pc := 42) 0 dX8_hour_42 rfl rfl ?_
      refine x_getR (pc := 43) dX8_hour_43 fX8_40 rfl rfl ?_
      refine x_aload_n (pc := 46) 0 dX8_hour_46 rfl rfl ?_
      refine x_getR (pc := 47) dX8_hour_47 fX8_19 rfl rfl ?_
      obtain ⟨x7, s6, hr, h⟩ := h
      refine x_callV (pc := 50) [(.ref 3)] [] dX8_hour_50 ⟨⟨hX1_passHour.1, hX1_passHour.2.1, hX1_passHour.2.2, by decide⟩, mX8_158, vX1_passHour.1, vX1_passHour.2⟩ (ci := 1) rfl rfl rfl rfl (Nat.le_of_ble_eq_true rfl) hr ?_
      exact x_ireturn2 (pc := 53) dX8_hour_53 rfl h.1 h.2
    · replace h := h.2 c2
      refine x_bipush (pc := 23) (-2 : Int32) dX8_hour_23 (by decide +kernel) ?_
      exact x_ireturn2 (pc := 25) dX8_hour_25 rfl h.1 h.2
theorem dX8_send_0 : decode cX8_send 0 = .ok (.aload_n 0, 1) := by decide +kernel
theorem dX8_send_1 : decode cX8_send 1 = .ok (.iload_n 1, 1) := by decide +kernel
theorem dX8_send_2 : decode cX8_send 2 = .ok (.invokevirtual 117, 3) := by decide +kernel
theorem dX8_send_5 : decode cX8_send 5 = .ok (.ifCond .eq 16, 3) := by decide +kernel
theorem dX8_send_8 : decode cX8_send 8 = .ok (.iload_n 2, 1) := by decide +kernel
theorem dX8_send_9 : decode cX8_send 9 = .ok (.iconst (-1), 1) := by decide +kernel
theorem dX8_send_10 : decode cX8_send 10 = .ok (.if_icmp .eq 13, 3) := by decide +kernel
theorem dX8_send_13 : decode cX8_send 13 = .ok (.aload_n 0, 1) := by decide +kernel
theorem dX8_send_14 : decode cX8_send 14 = .ok (.iload_n 2, 1) := by decide +kernel
theorem dX8_send_15 : decode cX8_send 15 = .ok (.invokevirtual 103, 3) := by decide +kernel
theorem dX8_send_18 : decode cX8_send 18 = .ok (.ifCond .ne 5, 3) := by decide +kernel
theorem dX8_send_21 : decode cX8_send 21 = .ok (.iconst (-1), 1) := by decide +kernel
theorem dX8_send_22 : decode cX8_send 22 = .ok (.ireturn, 1) := by decide +kernel
theorem dX8_send_23 : decode cX8_send 23 = .ok (.aload_n 0, 1) := by decide +kernel
theorem dX8_send_24 : decode cX8_send 24 = .ok (.getfield 19, 3) := by decide +kernel
theorem dX8_send_27 : decode cX8_send 27 = .ok (.getfield 132, 3) := by decide +kernel
theorem dX8_send_30 : decode cX8_send 30 = .ok (.iload_n 1, 1) := by decide +kernel
theorem dX8_send_31 : decode cX8_send 31 = .ok (.iaload, 1) := by decide +kernel
theorem dX8_send_32 : decode cX8_send 32 = .ok (.istore_n 3, 1) := by decide +kernel
theorem dX8_send_33 : decode cX8_send 33 = .ok (.iload_n 3, 1) := by decide +kernel
theorem dX8_send_34 : decode cX8_send 34 = .ok (.iload_n 2, 1) := by decide +kernel
theorem dX8_send_35 : decode cX8_send 35 = .ok (.if_icmp .ne 6, 3) := by decide +kernel
theorem dX8_send_38 : decode cX8_send 38 = .ok (.bipush (-2), 2) := by decide +kernel
theorem dX8_send_40 : decode cX8_send 40 = .ok (.ireturn, 1) := by decide +kernel
theorem dX8_send_41 : decode cX8_send 41 = .ok (.aload_n 0, 1) := by decide +kernel
theorem dX8_send_42 : decode cX8_send 42 = .ok (.getfield 33, 3) := by decide +kernel
theorem dX8_send_45 : decode cX8_send 45 = .ok (.iconst 1, 1) := by decide +kernel
theorem dX8_send_46 : decode cX8_send 46 = .ok (.iload_n 1, 1) := by decide +kernel
theorem dX8_send_47 : decode cX8_send 47 = .ok (.iload_n 3, 1) := by decide +kernel
theorem dX8_send_48 : decode cX8_send 48 = .ok (.invokevirtual 154, 3) := by decide +kernel
theorem dX8_send_51 : decode cX8_send 51 = .ok (.aload_n 0, 1) := by decide +kernel
theorem dX8_send_52 : decode cX8_send 52 = .ok (.getfield 19, 3) := by decide +kernel
theorem dX8_send_55 : decode cX8_send 55 = .ok (.getfield 132, 3) := by decide +kernel
theorem dX8_send_58 : decode cX8_send 58 = .ok (.iload_n 1, 1) := by decide +kernel
theorem dX8_send_59 : decode cX8_send 59 = .ok (.iload_n 2, 1) := by decide +kernel
theorem dX8_send_60 : decode cX8_send 60 = .ok (.iastore, 1) := by decide +kernel
theorem dX8_send_61 : decode cX8_send 61 = .ok (.iload_n 3, 1) := by decide +kernel
theorem dX8_send_62 : decode cX8_send 62 = .ok (.invokestatic 134, 3) := by decide +kernel
theorem dX8_send_65 : decode cX8_send 65 = .ok (.ireturn, 1) := by decide +kernel
def R_X8_send (a1 : Int32) (a2 : Int32) (σ : kS) (x : Int32) (τ : kS) : Prop := Run SX jX8_send [(.ref 0), (.int a1), (.int a2)] σ (some (.int x)) τ
def E_X8_send_23 (l1 : Int32) (l2 : Int32) (σ : kS) (x : Int32) (τ : kS) : Prop := Ex SX jX8_send 23 [some (.ref 0), some (.int l1), some (.int l2), none] [] σ (some (.int x)) τ
set_option maxRecDepth 20000 in
theorem t_X8_send {a1 : Int32} {a2 : Int32} {σ : kS} {x : Int32} {τ : kS}  (h : (¬ (wn a1 (σ.1 3 2)) → x = (-1 : Int32) ∧ τ = σ) ∧ ((wn a1 (σ.1 3 2)) → (a2 = (-1 : Int32) → E_X8_send_23 a1 a2 σ x τ) ∧ (¬ a2 = (-1 : Int32) → ((wn a2 (σ.1 3 1)) → E_X8_send_23 a1 a2 σ x τ) ∧ (¬ (wn a2 (σ.1 3 1)) → x = (-1 : Int32) ∧ τ = σ)))) : R_X8_send a1 a2 σ x τ := by
  refine x_run [some (.ref 0), some (.int a1), some (.int a2), none] (by decide +kernel) rfl (Nat.le_of_ble_eq_true rfl) ?_
  refine x_aload_n (pc := 0) 0 dX8_send_0 rfl rfl ?_
  refine x_iload_n (pc := 1) 1 dX8_send_1 rfl rfl ?_
  refine x_callV (pc := 2) [(.int a1)] [] dX8_send_2 ⟨⟨hX8_isSinger.1, hX8_isSinger.2.1, hX8_isSinger.2.2, by decide⟩, mX8_117, vX8_isSinger.1, vX8_isSinger.2⟩ (ci := 8) rfl rfl rfl rfl (Nat.le_of_ble_eq_true rfl) (i_X8_isSinger) ?_
  refine x_bif_eq (pc := 5) 21 dX8_send_5 (by decide) (fun c1 => ?_) (fun c1 => ?_)
  · replace h := h.1 c1
    refine x_iconst (pc := 21) (-1 : Int32) dX8_send_21 (by decide +kernel) ?_
    exact x_ireturn2 (pc := 22) dX8_send_22 rfl h.1 h.2
  · replace h := h.2 c1
    refine x_iload_n (pc := 8) 2 dX8_send_8 rfl rfl ?_
    refine x_iconst (pc := 9) (-1 : Int32) dX8_send_9 (by decide +kernel) ?_
    refine x_icmp_eq (pc := 10) 23 dX8_send_10 (by decide) (fun c2 => ?_) (fun c2 => ?_)
    · replace h := h.1 c2
      exact h
    · replace h := h.2 c2
      refine x_aload_n (pc := 13) 0 dX8_send_13 rfl rfl ?_
      refine x_iload_n (pc := 14) 2 dX8_send_14 rfl rfl ?_
      refine x_callV (pc := 15) [(.int a2)] [] dX8_send_15 ⟨⟨hX8_isField.1, hX8_isField.2.1, hX8_isField.2.2, by decide⟩, mX8_103, vX8_isField.1, vX8_isField.2⟩ (ci := 8) rfl rfl rfl rfl (Nat.le_of_ble_eq_true rfl) (i_X8_isField) ?_
      refine x_bif_ne (pc := 18) 23 dX8_send_18 (by decide) (fun c3 => ?_) (fun c3 => ?_)
      · replace h := h.1 c3
        exact h
      · replace h := h.2 c3
        refine x_iconst (pc := 21) (-1 : Int32) dX8_send_21 (by decide +kernel) ?_
        exact x_ireturn2 (pc := 22) dX8_send_22 rfl h.1 h.2
set_option maxRecDepth 20000 in
theorem t_X8_send_23 {l1 : Int32} {l2 : Int32} {σ : kS} {x : Int32} {τ : kS}  (h : vp_in l1 5 ∧ ((¬ (σ.1 9 l1.toNatClampNeg) = l2 → ∃ s3 : kS, R_X0_keep (1 : Int32) l1 (σ.1 9 l1.toNatClampNeg) σ s3 ∧ (vp_in l1 5 ∧ (x = (tP (σ.1 9 l1.toNatClampNeg)) ∧ τ = (k_si s3 9 l1.toNatClampNeg l2)))) ∧ ((σ.1 9 l1.toNatClampNeg) = l2 → x = (-2 : Int32) ∧ τ = σ))) : E_X8_send_23 l1 l2 σ x τ := by
  unfold E_X8_send_23
  refine x_aload_n (pc := 23) 0 dX8_send_23 rfl rfl ?_
  refine x_getR (pc := 24) dX8_send_24 fX8_19 rfl rfl ?_
  refine x_getR (pc := 27) dX8_send_27 fX8_132 rfl rfl ?_
  refine x_iload_n (pc := 30) 1 dX8_send_30 rfl rfl ?_
  obtain ⟨g1, h⟩ := h
  refine x_iaload (pc := 31) (n := 5) dX8_send_31 rfl g1 ?_
  refine x_istore_n (pc := 32) 3 dX8_send_32 rfl (by decide) rfl ?_
  refine x_iload_n (pc := 33) 3 dX8_send_33 rfl rfl ?_
  refine x_iload_n (pc := 34) 2 dX8_send_34 rfl rfl ?_
  refine x_icmp_ne (pc := 35) 41 dX8_send_35 (by decide) (fun c2 => ?_) (fun c2 => ?_)
  · replace h := h.1 c2
    refine x_aload_n (pc := 41) 0 dX8_send_41 rfl rfl ?_
    refine x_getR (pc := 42) dX8_send_42 fX8_33 rfl rfl ?_
    refine x_iconst (pc := 45) (1 : Int32) dX8_send_45 (by decide +kernel) ?_
    refine x_iload_n (pc := 46) 1 dX8_send_46 rfl rfl ?_
    refine x_iload_n (pc := 47) 3 dX8_send_47 rfl rfl ?_
    obtain ⟨s3, hr, h⟩ := h
    refine x_callV (pc := 48) [(.int (1 : Int32)), (.int l1), (.int (σ.1 9 l1.toNatClampNeg))] [] dX8_send_48 ⟨⟨hX0_keep.1, hX0_keep.2.1, hX0_keep.2.2, by decide⟩, mX8_154, vX0_keep.1, vX0_keep.2⟩ (ci := 0) rfl rfl rfl rfl (Nat.le_of_ble_eq_true rfl) hr ?_
    refine x_aload_n (pc := 51) 0 dX8_send_51 rfl rfl ?_
    refine x_getR (pc := 52) dX8_send_52 fX8_19 rfl rfl ?_
    refine x_getR (pc := 55) dX8_send_55 fX8_132 rfl rfl ?_
    refine x_iload_n (pc := 58) 1 dX8_send_58 rfl rfl ?_
    refine x_iload_n (pc := 59) 2 dX8_send_59 rfl rfl ?_
    obtain ⟨g4, h⟩ := h
    refine x_iastore (pc := 60) (n := 5) dX8_send_60 rfl g4 ?_
    refine x_iload_n (pc := 61) 3 dX8_send_61 rfl rfl ?_
    refine x_callS (pc := 62) [(.int (σ.1 9 l1.toNatClampNeg))] [] dX8_send_62 ⟨⟨hX8_tellPlace.1, hX8_tellPlace.2.1, hX8_tellPlace.2.2, by decide⟩, mX8_134, sX8_tellPlace⟩ rfl rfl (Nat.le_of_ble_eq_true rfl) (i_X8_tellPlace) ?_
    exact x_ireturn2 (pc := 65) dX8_send_65 rfl h.1 h.2
  · replace h := h.2 c2
    refine x_bipush (pc := 38) (-2 : Int32) dX8_send_38 (by decide +kernel) ?_
    exact x_ireturn2 (pc := 40) dX8_send_40 rfl h.1 h.2
theorem dX8_sound_0 : decode cX8_sound 0 = .ok (.aload_n 0, 1) := by decide +kernel
theorem dX8_sound_1 : decode cX8_sound 1 = .ok (.iload_n 1, 1) := by decide +kernel
theorem dX8_sound_2 : decode cX8_sound 2 = .ok (.invokevirtual 103, 3) := by decide +kernel
theorem dX8_sound_5 : decode cX8_sound 5 = .ok (.ifCond .eq 12, 3) := by decide +kernel
theorem dX8_sound_8 : decode cX8_sound 8 = .ok (.iload_n 2, 1) := by decide +kernel
theorem dX8_sound_9 : decode cX8_sound 9 = .ok (.bipush 12, 2) := by decide +kernel
theorem dX8_sound_11 : decode cX8_sound 11 = .ok (.invokestatic 70, 3) := by decide +kernel
theorem dX8_sound_14 : decode cX8_sound 14 = .ok (.ifCond .ne 5, 3) := by decide +kernel
theorem dX8_sound_17 : decode cX8_sound 17 = .ok (.iconst (-1), 1) := by decide +kernel
theorem dX8_sound_18 : decode cX8_sound 18 = .ok (.ireturn, 1) := by decide +kernel
theorem dX8_sound_19 : decode cX8_sound 19 = .ok (.aload_n 0, 1) := by decide +kernel
theorem dX8_sound_20 : decode cX8_sound 20 = .ok (.getfield 33, 3) := by decide +kernel
theorem dX8_sound_23 : decode cX8_sound 23 = .ok (.iconst 2, 1) := by decide +kernel
theorem dX8_sound_24 : decode cX8_sound 24 = .ok (.iload_n 1, 1) := by decide +kernel
theorem dX8_sound_25 : decode cX8_sound 25 = .ok (.iload_n 2, 1) := by decide +kernel
theorem dX8_sound_26 : decode cX8_sound 26 = .ok (.invokevirtual 154, 3) := by decide +kernel
theorem dX8_sound_29 : decode cX8_sound 29 = .ok (.aload_n 0, 1) := by decide +kernel
theorem dX8_sound_30 : decode cX8_sound 30 = .ok (.getfield 19, 3) := by decide +kernel
theorem dX8_sound_33 : decode cX8_sound 33 = .ok (.iload_n 1, 1) := by decide +kernel
theorem dX8_sound_34 : decode cX8_sound 34 = .ok (.iload_n 2, 1) := by decide +kernel
theorem dX8_sound_35 : decode cX8_sound 35 = .ok (.invokevirtual 162, 3) := by decide +kernel
theorem dX8_sound_38 : decode cX8_sound 38 = .ok (.aload_n 0, 1) := by decide +kernel
theorem dX8_sound_39 : decode cX8_sound 39 = .ok (.getfield 19, 3) := by decide +kernel
theorem dX8_sound_42 : decode cX8_sound 42 = .ok (.getfield 107, 3) := by decide +kernel
theorem dX8_sound_45 : decode cX8_sound 45 = .ok (.iload_n 1, 1) := by decide +kernel
theorem dX8_sound_46 : decode cX8_sound 46 = .ok (.iaload, 1) := by decide +kernel
theorem dX8_sound_47 : decode cX8_sound 47 = .ok (.iload_n 2, 1) := by decide +kernel
theorem dX8_sound_48 : decode cX8_sound 48 = .ok (.invokestatic 140, 3) := by decide +kernel
theorem dX8_sound_51 : decode cX8_sound 51 = .ok (.ifCond .eq 7, 3) := by decide +kernel
theorem dX8_sound_54 : decode cX8_sound 54 = .ok (.iconst 1, 1) := by decide +kernel
theorem dX8_sound_55 : decode cX8_sound 55 = .ok (.goto 4, 3) := by decide +kernel
theorem dX8_sound_58 : decode cX8_sound 58 = .ok (.iconst 0, 1) := by decide +kernel
theorem dX8_sound_59 : decode cX8_sound 59 = .ok (.ireturn, 1) := by decide +kernel
def R_X8_sound (a1 : Int32) (a2 : Int32) (σ : kS) (x : Int32) (τ : kS) : Prop := Run SX jX8_sound [(.ref 0), (.int a1), (.int a2)] σ (some (.int x)) τ
set_option maxRecDepth 20000 in
theorem t_X8_sound {a1 : Int32} {a2 : Int32} {σ : kS} {x : Int32} {τ : kS}  (h : (¬ (wn a1 (σ.1 3 1)) → x = (-1 : Int32) ∧ τ = σ) ∧ ((wn a1 (σ.1 3 1)) → ((wn a2 (12 : Int32)) → ∃ s3 : kS, R_X0_keep (2 : Int32) a1 a2 σ s3 ∧ (∃ s4 : kS, R_X7_turnPitch 3 a1 a2 s3 s4 ∧ (vp_in a1 5 ∧ ((¬ (hs (s4.1 5 a1.toNatClampNeg) a2) → x = (0 : Int32) ∧ τ = s4) ∧ ((hs (s4.1 5 a1.toNatClampNeg) a2) → x = (1 : Int32) ∧ τ = s4))))) ∧ (¬ (wn a2 (12 : Int32)) → x = (-1 : Int32) ∧ τ = σ))) : R_X8_sound a1 a2 σ x τ := by
  refine x_run [some (.ref 0), some (.int a1), some (.int a2)] (by decide +kernel) rfl (Nat.le_of_ble_eq_true rfl) ?_
  refine x_aload_n (pc := 0) 0 dX8_sound_0 rfl rfl ?_
  refine x_iload_n (pc := 1) 1 dX8_sound_1 rfl rfl ?_
  refine x_callV (pc := 2) [(.int a1)] [] dX8_sound_2 ⟨⟨hX8_isField.1, hX8_isField.2.1, hX8_isField.2.2, by decide⟩, mX8_103, vX8_isField.1, vX8_isField.2⟩ (ci := 8) rfl rfl rfl rfl (Nat.le_of_ble_eq_true rfl) (i_X8_isField) ?_
  refine x_bif_eq (pc := 5) 17 dX8_sound_5 (by decide) (fun c1 => ?_) (fun c1 => ?_)
  · replace h := h.1 c1
    refine x_iconst (pc := 17) (-1 : Int32) dX8_sound_17 (by decide +kernel) ?_
    exact x_ireturn2 (pc := 18) dX8_sound_18 rfl h.1 h.2
  · replace h := h.2 c1
    refine x_iload_n (pc := 8) 2 dX8_sound_8 rfl rfl ?_
    refine x_bipush (pc := 9) (12 : Int32) dX8_sound_9 (by decide +kernel) ?_
    refine x_callS (pc := 11) [(.int a2), (.int (12 : Int32))] [] dX8_sound_11 ⟨⟨hX8_within.1, hX8_within.2.1, hX8_within.2.2, by decide⟩, mX8_70, sX8_within⟩ rfl rfl (Nat.le_of_ble_eq_true rfl) (i_X8_within) ?_
    refine x_bif_ne (pc := 14) 19 dX8_sound_14 (by decide) (fun c2 => ?_) (fun c2 => ?_)
    · replace h := h.1 c2
      refine x_aload_n (pc := 19) 0 dX8_sound_19 rfl rfl ?_
      refine x_getR (pc := 20) dX8_sound_20 fX8_33 rfl rfl ?_
      refine x_iconst (pc := 23) (2 : Int32) dX8_sound_23 (by decide +kernel) ?_
      refine x_iload_n (pc := 24) 1 dX8_sound_24 rfl rfl ?_
      refine x_iload_n (pc := 25) 2 dX8_sound_25 rfl rfl ?_
      obtain ⟨s3, hr, h⟩ := h
      refine x_callV (pc := 26) [(.int (2 : Int32)), (.int a1), (.int a2)] [] dX8_sound_26 ⟨⟨hX0_keep.1, hX0_keep.2.1, hX0_keep.2.2, by decide⟩, mX8_154, vX0_keep.1, vX0_keep.2⟩ (ci := 0) rfl rfl rfl rfl (Nat.le_of_ble_eq_true rfl) hr ?_
      refine x_aload_n (pc := 29) 0 dX8_sound_29 rfl rfl ?_
      refine x_getR (pc := 30) dX8_sound_30 fX8_19 rfl rfl ?_
      refine x_iload_n (pc := 33) 1 dX8_sound_33 rfl rfl ?_
      refine x_iload_n (pc := 34) 2 dX8_sound_34 rfl rfl ?_
      obtain ⟨s4, hr, h⟩ := h
      refine x_callV (pc := 35) [(.int a1), (.int a2)] [] dX8_sound_35 ⟨⟨hX7_turnPitch.1, hX7_turnPitch.2.1, hX7_turnPitch.2.2, by decide⟩, mX8_162, vX7_turnPitch.1, vX7_turnPitch.2⟩ (ci := 7) rfl rfl rfl rfl (Nat.le_of_ble_eq_true rfl) hr ?_
      refine x_aload_n (pc := 38) 0 dX8_sound_38 rfl rfl ?_
      refine x_getR (pc := 39) dX8_sound_39 fX8_19 rfl rfl ?_
      refine x_getR (pc := 42) dX8_sound_42 fX8_107 rfl rfl ?_
      refine x_iload_n (pc := 45) 1 dX8_sound_45 rfl rfl ?_
      obtain ⟨g5, h⟩ := h
      refine x_iaload (pc := 46) (n := 5) dX8_sound_46 rfl g5 ?_
      refine x_iload_n (pc := 47) 2 dX8_sound_47 rfl rfl ?_
      refine x_callS (pc := 48) [(.int (s4.1 5 a1.toNatClampNeg)), (.int a2)] [] dX8_sound_48 ⟨⟨hX8_has.1, hX8_has.2.1, hX8_has.2.2, by decide⟩, mX8_140, sX8_has⟩ rfl rfl (Nat.le_of_ble_eq_true rfl) (i_X8_has) ?_
      refine x_bif_eq (pc := 51) 58 dX8_sound_51 (by decide) (fun c6 => ?_) (fun c6 => ?_)
      · replace h := h.1 c6
        refine x_iconst (pc := 58) (0 : Int32) dX8_sound_58 (by decide +kernel) ?_
        exact x_ireturn2 (pc := 59) dX8_sound_59 rfl h.1 h.2
      · replace h := h.2 c6
        refine x_iconst (pc := 54) (1 : Int32) dX8_sound_54 (by decide +kernel) ?_
        refine x_goto (pc := 55) 59 dX8_sound_55 (by decide) ?_
        exact x_ireturn2 (pc := 59) dX8_sound_59 rfl h.1 h.2
    · replace h := h.2 c2
      refine x_iconst (pc := 17) (-1 : Int32) dX8_sound_17 (by decide +kernel) ?_
      exact x_ireturn2 (pc := 18) dX8_sound_18 rfl h.1 h.2
theorem dX8_undo_0 : decode cX8_undo 0 = .ok (.aload_n 0, 1) := by decide +kernel
theorem dX8_undo_1 : decode cX8_undo 1 = .ok (.getfield 33, 3) := by decide +kernel
theorem dX8_undo_4 : decode cX8_undo 4 = .ok (.getfield 166, 3) := by decide +kernel
theorem dX8_undo_7 : decode cX8_undo 7 = .ok (.ifCond .ne 6, 3) := by decide +kernel
theorem dX8_undo_10 : decode cX8_undo 10 = .ok (.bipush (-4), 2) := by decide +kernel
theorem dX8_undo_12 : decode cX8_undo 12 = .ok (.ireturn, 1) := by decide +kernel
theorem dX8_undo_13 : decode cX8_undo 13 = .ok (.aload_n 0, 1) := by decide +kernel
theorem dX8_undo_14 : decode cX8_undo 14 = .ok (.getfield 33, 3) := by decide +kernel
theorem dX8_undo_17 : decode cX8_undo 17 = .ok (.aload_n 0, 1) := by decide +kernel
theorem dX8_undo_18 : decode cX8_undo 18 = .ok (.getfield 19, 3) := by decide +kernel
theorem dX8_undo_21 : decode cX8_undo 21 = .ok (.invokevirtual 167, 3) := by decide +kernel
theorem dX8_undo_24 : decode cX8_undo 24 = .ok (.aload_n 0, 1) := by decide +kernel
theorem dX8_undo_25 : decode cX8_undo 25 = .ok (.getfield 33, 3) := by decide +kernel
theorem dX8_undo_28 : decode cX8_undo 28 = .ok (.getfield 166, 3) := by decide +kernel
theorem dX8_undo_31 : decode cX8_undo 31 = .ok (.ireturn, 1) := by decide +kernel
def R_X8_undo  (σ : kS) (x : Int32) (τ : kS) : Prop := Run SX jX8_undo [(.ref 0)] σ (some (.int x)) τ
set_option maxRecDepth 20000 in
theorem t_X8_undo  {σ : kS} {x : Int32} {τ : kS}  (h : (¬ (σ.1 20 0) = 0 → ∃ s2 : kS, R_X0_takeBack  σ s2 ∧ (x = (s2.1 20 0) ∧ τ = s2)) ∧ ((σ.1 20 0) = 0 → x = (-4 : Int32) ∧ τ = σ)) : R_X8_undo  σ x τ := by
  refine x_run [some (.ref 0)] (by decide +kernel) rfl (Nat.le_of_ble_eq_true rfl) ?_
  refine x_aload_n (pc := 0) 0 dX8_undo_0 rfl rfl ?_
  refine x_getR (pc := 1) dX8_undo_1 fX8_33 rfl rfl ?_
  refine x_getI (pc := 4) dX8_undo_4 fX8_166 rfl rfl ?_
  refine x_if_ne (pc := 7) 13 dX8_undo_7 (by decide) (fun c1 => ?_) (fun c1 => ?_)
  · replace h := h.1 c1
    refine x_aload_n (pc := 13) 0 dX8_undo_13 rfl rfl ?_
    refine x_getR (pc := 14) dX8_undo_14 fX8_33 rfl rfl ?_
    refine x_aload_n (pc := 17) 0 dX8_undo_17 rfl rfl ?_
    refine x_getR (pc := 18) dX8_undo_18 fX8_19 rfl rfl ?_
    obtain ⟨s2, hr, h⟩ := h
    refine x_callV (pc := 21) [(.ref 3)] [] dX8_undo_21 ⟨⟨hX0_takeBack.1, hX0_takeBack.2.1, hX0_takeBack.2.2, by decide⟩, mX8_167, vX0_takeBack.1, vX0_takeBack.2⟩ (ci := 0) rfl rfl rfl rfl (Nat.le_of_ble_eq_true rfl) hr ?_
    refine x_aload_n (pc := 24) 0 dX8_undo_24 rfl rfl ?_
    refine x_getR (pc := 25) dX8_undo_25 fX8_33 rfl rfl ?_
    refine x_getI (pc := 28) dX8_undo_28 fX8_166 rfl rfl ?_
    exact x_ireturn2 (pc := 31) dX8_undo_31 rfl h.1 h.2
  · replace h := h.2 c1
    refine x_bipush (pc := 10) (-4 : Int32) dX8_undo_10 (by decide +kernel) ?_
    exact x_ireturn2 (pc := 12) dX8_undo_12 rfl h.1 h.2
theorem dX8_image_0 : decode cX8_image 0 = .ok (.iload_n 1, 1) := by decide +kernel
theorem dX8_image_1 : decode cX8_image 1 = .ok (.iconst 2, 1) := by decide +kernel
theorem dX8_image_2 : decode cX8_image 2 = .ok (.invokestatic 70, 3) := by decide +kernel
theorem dX8_image_5 : decode cX8_image 5 = .ok (.ifCond .ne 5, 3) := by decide +kernel
theorem dX8_image_8 : decode cX8_image 8 = .ok (.iconst (-1), 1) := by decide +kernel
theorem dX8_image_9 : decode cX8_image 9 = .ok (.ireturn, 1) := by decide +kernel
theorem dX8_image_10 : decode cX8_image 10 = .ok (.aload_n 0, 1) := by decide +kernel
theorem dX8_image_11 : decode cX8_image 11 = .ok (.getfield 19, 3) := by decide +kernel
theorem dX8_image_14 : decode cX8_image 14 = .ok (.invokevirtual 143, 3) := by decide +kernel
theorem dX8_image_17 : decode cX8_image 17 = .ok (.ifCond .ne 6, 3) := by decide +kernel
theorem dX8_image_20 : decode cX8_image 20 = .ok (.bipush (-2), 2) := by decide +kernel
theorem dX8_image_22 : decode cX8_image 22 = .ok (.ireturn, 1) := by decide +kernel
theorem dX8_image_23 : decode cX8_image 23 = .ok (.aload_n 0, 1) := by decide +kernel
theorem dX8_image_24 : decode cX8_image 24 = .ok (.getfield 26, 3) := by decide +kernel
theorem dX8_image_27 : decode cX8_image 27 = .ok (.iload_n 1, 1) := by decide +kernel
theorem dX8_image_28 : decode cX8_image 28 = .ok (.aaload, 1) := by decide +kernel
theorem dX8_image_29 : decode cX8_image 29 = .ok (.aload_n 0, 1) := by decide +kernel
theorem dX8_image_30 : decode cX8_image 30 = .ok (.getfield 19, 3) := by decide +kernel
theorem dX8_image_33 : decode cX8_image 33 = .ok (.invokevirtual 170, 3) := by decide +kernel
theorem dX8_image_36 : decode cX8_image 36 = .ok (.aload_n 0, 1) := by decide +kernel
theorem dX8_image_37 : decode cX8_image 37 = .ok (.getfield 19, 3) := by decide +kernel
theorem dX8_image_40 : decode cX8_image 40 = .ok (.getfield 147, 3) := by decide +kernel
theorem dX8_image_43 : decode cX8_image 43 = .ok (.ireturn, 1) := by decide +kernel
def R_X8_image (a1 : Int32) (σ : kS) (x : Int32) (τ : kS) : Prop := Run SX jX8_image [(.ref 0), (.int a1)] σ (some (.int x)) τ
set_option maxRecDepth 20000 in
theorem t_X8_image {a1 : Int32} {σ : kS} {x : Int32} {τ : kS}  (h : ((wn a1 (2 : Int32)) → ((0 < (σ.1 3 1) ∧ 0 < (σ.1 3 2)) → vp_in a1 2 ∧ ∃ q4 : Nat, k_fd SX 19 a1.toNatClampNeg = some (some q4) ∧ k_vly q4 = true ∧ (∃ s6 : kS, R_X7_become q4 3 σ s6 ∧ (x = (s6.1 3 3) ∧ τ = s6))) ∧ (¬ (0 < (σ.1 3 1) ∧ 0 < (σ.1 3 2)) → x = (-2 : Int32) ∧ τ = σ)) ∧ (¬ (wn a1 (2 : Int32)) → x = (-1 : Int32) ∧ τ = σ)) : R_X8_image a1 σ x τ := by
  refine x_run [some (.ref 0), some (.int a1)] (by decide +kernel) rfl (Nat.le_of_ble_eq_true rfl) ?_
  refine x_iload_n (pc := 0) 1 dX8_image_0 rfl rfl ?_
  refine x_iconst (pc := 1) (2 : Int32) dX8_image_1 (by decide +kernel) ?_
  refine x_callS (pc := 2) [(.int a1), (.int (2 : Int32))] [] dX8_image_2 ⟨⟨hX8_within.1, hX8_within.2.1, hX8_within.2.2, by decide⟩, mX8_70, sX8_within⟩ rfl rfl (Nat.le_of_ble_eq_true rfl) (i_X8_within) ?_
  refine x_bif_ne (pc := 5) 10 dX8_image_5 (by decide) (fun c1 => ?_) (fun c1 => ?_)
  · replace h := h.1 c1
    refine x_aload_n (pc := 10) 0 dX8_image_10 rfl rfl ?_
    refine x_getR (pc := 11) dX8_image_11 fX8_19 rfl rfl ?_
    refine x_callV (pc := 14) [] [] dX8_image_14 ⟨⟨hX7_isThere.1, hX7_isThere.2.1, hX7_isThere.2.2, by decide⟩, mX8_143, vX7_isThere.1, vX7_isThere.2⟩ (ci := 7) rfl rfl rfl rfl (Nat.le_of_ble_eq_true rfl) (i_X7_isThere rfl) ?_
    refine x_bif_ne (pc := 17) 23 dX8_image_17 (by decide) (fun c2 => ?_) (fun c2 => ?_)
    · replace h := h.1 c2
      refine x_aload_n (pc := 23) 0 dX8_image_23 rfl rfl ?_
      refine x_getR (pc := 24) dX8_image_24 fX8_26 rfl rfl ?_
      refine x_iload_n (pc := 27) 1 dX8_image_27 rfl rfl ?_
      obtain ⟨g3, q4, e5, hq4, h⟩ := h
      refine x_aaload4 (pc := 28) (n := 2) dX8_image_28 rfl g3 e5 ?_
      refine x_aload_n (pc := 29) 0 dX8_image_29 rfl rfl ?_
      refine x_getR (pc := 30) dX8_image_30 fX8_19 rfl rfl ?_
      obtain ⟨s6, hr, h⟩ := h
      refine x_callV (pc := 33) [(.ref 3)] [] dX8_image_33 ⟨⟨hX7_become.1, hX7_become.2.1, hX7_become.2.2, by decide⟩, mX8_170, vX7_become.1, vX7_become.2⟩ (ci := 7) rfl (vl_is hq4) rfl rfl (Nat.le_of_ble_eq_true rfl) hr ?_
      refine x_aload_n (pc := 36) 0 dX8_image_36 rfl rfl ?_
      refine x_getR (pc := 37) dX8_image_37 fX8_19 rfl rfl ?_
      refine x_getI (pc := 40) dX8_image_40 fX8_147 rfl rfl ?_
      exact x_ireturn2 (pc := 43) dX8_image_43 rfl h.1 h.2
    · replace h := h.2 c2
      refine x_bipush (pc := 20) (-2 : Int32) dX8_image_20 (by decide +kernel) ?_
      exact x_ireturn2 (pc := 22) dX8_image_22 rfl h.1 h.2
  · replace h := h.2 c1
    refine x_iconst (pc := 8) (-1 : Int32) dX8_image_8 (by decide +kernel) ?_
    exact x_ireturn2 (pc := 9) dX8_image_9 rfl h.1 h.2
theorem dX8_restore_0 : decode cX8_restore 0 = .ok (.iload_n 1, 1) := by decide +kernel
theorem dX8_restore_1 : decode cX8_restore 1 = .ok (.iconst 2, 1) := by decide +kernel
theorem dX8_restore_2 : decode cX8_restore 2 = .ok (.invokestatic 70, 3) := by decide +kernel
theorem dX8_restore_5 : decode cX8_restore 5 = .ok (.ifCond .ne 5, 3) := by decide +kernel
theorem dX8_restore_8 : decode cX8_restore 8 = .ok (.iconst (-1), 1) := by decide +kernel
theorem dX8_restore_9 : decode cX8_restore 9 = .ok (.ireturn, 1) := by decide +kernel
theorem dX8_restore_10 : decode cX8_restore 10 = .ok (.aload_n 0, 1) := by decide +kernel
theorem dX8_restore_11 : decode cX8_restore 11 = .ok (.getfield 26, 3) := by decide +kernel
theorem dX8_restore_14 : decode cX8_restore 14 = .ok (.iload_n 1, 1) := by decide +kernel
theorem dX8_restore_15 : decode cX8_restore 15 = .ok (.aaload, 1) := by decide +kernel
theorem dX8_restore_16 : decode cX8_restore 16 = .ok (.invokevirtual 143, 3) := by decide +kernel
theorem dX8_restore_19 : decode cX8_restore 19 = .ok (.ifCond .ne 6, 3) := by decide +kernel
theorem dX8_restore_22 : decode cX8_restore 22 = .ok (.bipush (-2), 2) := by decide +kernel
theorem dX8_restore_24 : decode cX8_restore 24 = .ok (.ireturn, 1) := by decide +kernel
theorem dX8_restore_25 : decode cX8_restore 25 = .ok (.aload_n 0, 1) := by decide +kernel
theorem dX8_restore_26 : decode cX8_restore 26 = .ok (.aload_n 0, 1) := by decide +kernel
theorem dX8_restore_27 : decode cX8_restore 27 = .ok (.getfield 26, 3) := by decide +kernel
theorem dX8_restore_30 : decode cX8_restore 30 = .ok (.iload_n 1, 1) := by decide +kernel
theorem dX8_restore_31 : decode cX8_restore 31 = .ok (.aaload, 1) := by decide +kernel
theorem dX8_restore_32 : decode cX8_restore 32 = .ok (.invokevirtual 89, 3) := by decide +kernel
theorem dX8_restore_35 : decode cX8_restore 35 = .ok (.aload_n 0, 1) := by decide +kernel
theorem dX8_restore_36 : decode cX8_restore 36 = .ok (.getfield 19, 3) := by decide +kernel
theorem dX8_restore_39 : decode cX8_restore 39 = .ok (.getfield 147, 3) := by decide +kernel
theorem dX8_restore_42 : decode cX8_restore 42 = .ok (.ireturn, 1) := by decide +kernel
def R_X8_restore (a1 : Int32) (σ : kS) (x : Int32) (τ : kS) : Prop := Run SX jX8_restore [(.ref 0), (.int a1)] σ (some (.int x)) τ
set_option maxRecDepth 20000 in
theorem t_X8_restore {a1 : Int32} {σ : kS} {x : Int32} {τ : kS}  (h : ((wn a1 (2 : Int32)) → vp_in a1 2 ∧ ∃ q3 : Nat, k_fd SX 19 a1.toNatClampNeg = some (some q3) ∧ k_vly q3 = true ∧ (((0 < (σ.1 q3 1) ∧ 0 < (σ.1 q3 2)) → vp_in a1 2 ∧ ∃ q7 : Nat, k_fd SX 19 a1.toNatClampNeg = some (some q7) ∧ k_vly q7 = true ∧ (∃ s9 : kS, R_X8_begin q7 σ s9 ∧ (x = (s9.1 3 3) ∧ τ = s9))) ∧ (¬ (0 < (σ.1 q3 1) ∧ 0 < (σ.1 q3 2)) → x = (-2 : Int32) ∧ τ = σ))) ∧ (¬ (wn a1 (2 : Int32)) → x = (-1 : Int32) ∧ τ = σ)) : R_X8_restore a1 σ x τ := by
  refine x_run [some (.ref 0), some (.int a1)] (by decide +kernel) rfl (Nat.le_of_ble_eq_true rfl) ?_
  refine x_iload_n (pc := 0) 1 dX8_restore_0 rfl rfl ?_
  refine x_iconst (pc := 1) (2 : Int32) dX8_restore_1 (by decide +kernel) ?_
  refine x_callS (pc := 2) [(.int a1), (.int (2 : Int32))] [] dX8_restore_2 ⟨⟨hX8_within.1, hX8_within.2.1, hX8_within.2.2, by decide⟩, mX8_70, sX8_within⟩ rfl rfl (Nat.le_of_ble_eq_true rfl) (i_X8_within) ?_
  refine x_bif_ne (pc := 5) 10 dX8_restore_5 (by decide) (fun c1 => ?_) (fun c1 => ?_)
  · replace h := h.1 c1
    refine x_aload_n (pc := 10) 0 dX8_restore_10 rfl rfl ?_
    refine x_getR (pc := 11) dX8_restore_11 fX8_26 rfl rfl ?_
    refine x_iload_n (pc := 14) 1 dX8_restore_14 rfl rfl ?_
    obtain ⟨g2, q3, e4, hq3, h⟩ := h
    refine x_aaload4 (pc := 15) (n := 2) dX8_restore_15 rfl g2 e4 ?_
    refine x_callV (pc := 16) [] [] dX8_restore_16 ⟨⟨hX7_isThere.1, hX7_isThere.2.1, hX7_isThere.2.2, by decide⟩, mX8_143, vX7_isThere.1, vX7_isThere.2⟩ (ci := 7) rfl (vl_is hq3) rfl rfl (Nat.le_of_ble_eq_true rfl) (i_X7_isThere hq3) ?_
    refine x_bif_ne (pc := 19) 25 dX8_restore_19 (by decide) (fun c5 => ?_) (fun c5 => ?_)
    · replace h := h.1 c5
      refine x_aload_n (pc := 25) 0 dX8_restore_25 rfl rfl ?_
      refine x_aload_n (pc := 26) 0 dX8_restore_26 rfl rfl ?_
      refine x_getR (pc := 27) dX8_restore_27 fX8_26 rfl rfl ?_
      refine x_iload_n (pc := 30) 1 dX8_restore_30 rfl rfl ?_
      obtain ⟨g6, q7, e8, hq7, h⟩ := h
      refine x_aaload4 (pc := 31) (n := 2) dX8_restore_31 rfl g6 e8 ?_
      obtain ⟨s9, hr, h⟩ := h
      refine x_callV (pc := 32) [(.ref q7)] [] dX8_restore_32 ⟨⟨hX8_begin.1, hX8_begin.2.1, hX8_begin.2.2, by decide⟩, mX8_89, vX8_begin.1, vX8_begin.2⟩ (ci := 8) rfl rfl rfl rfl (Nat.le_of_ble_eq_true rfl) hr ?_
      refine x_aload_n (pc := 35) 0 dX8_restore_35 rfl rfl ?_
      refine x_getR (pc := 36) dX8_restore_36 fX8_19 rfl rfl ?_
      refine x_getI (pc := 39) dX8_restore_39 fX8_147 rfl rfl ?_
      exact x_ireturn2 (pc := 42) dX8_restore_42 rfl h.1 h.2
    · replace h := h.2 c5
      refine x_bipush (pc := 22) (-2 : Int32) dX8_restore_22 (by decide +kernel) ?_
      exact x_ireturn2 (pc := 24) dX8_restore_24 rfl h.1 h.2
  · replace h := h.2 c1
    refine x_iconst (pc := 8) (-1 : Int32) dX8_restore_8 (by decide +kernel) ?_
    exact x_ireturn2 (pc := 9) dX8_restore_9 rfl h.1 h.2
theorem dX8_sings_0 : decode cX8_sings 0 = .ok (.aload_n 0, 1) := by decide +kernel
theorem dX8_sings_1 : decode cX8_sings 1 = .ok (.iload_n 1, 1) := by decide +kernel
theorem dX8_sings_2 : decode cX8_sings 2 = .ok (.invokevirtual 117, 3) := by decide +kernel
theorem dX8_sings_5 : decode cX8_sings 5 = .ok (.ifCond .ne 5, 3) := by decide +kernel
theorem dX8_sings_8 : decode cX8_sings 8 = .ok (.iconst (-1), 1) := by decide +kernel
theorem dX8_sings_9 : decode cX8_sings 9 = .ok (.ireturn, 1) := by decide +kernel
theorem dX8_sings_10 : decode cX8_sings 10 = .ok (.aload_n 0, 1) := by decide +kernel
theorem dX8_sings_11 : decode cX8_sings 11 = .ok (.getfield 40, 3) := by decide +kernel
theorem dX8_sings_14 : decode cX8_sings 14 = .ok (.aload_n 0, 1) := by decide +kernel
theorem dX8_sings_15 : decode cX8_sings 15 = .ok (.getfield 19, 3) := by decide +kernel
theorem dX8_sings_18 : decode cX8_sings 18 = .ok (.invokevirtual 173, 3) := by decide +kernel
theorem dX8_sings_21 : decode cX8_sings 21 = .ok (.pop, 1) := by decide +kernel
theorem dX8_sings_22 : decode cX8_sings 22 = .ok (.aload_n 0, 1) := by decide +kernel
theorem dX8_sings_23 : decode cX8_sings 23 = .ok (.getfield 40, 3) := by decide +kernel
theorem dX8_sings_26 : decode cX8_sings 26 = .ok (.getfield 176, 3) := by decide +kernel
theorem dX8_sings_29 : decode cX8_sings 29 = .ok (.iload_n 1, 1) := by decide +kernel
theorem dX8_sings_30 : decode cX8_sings 30 = .ok (.iaload, 1) := by decide +kernel
theorem dX8_sings_31 : decode cX8_sings 31 = .ok (.istore_n 2, 1) := by decide +kernel
theorem dX8_sings_32 : decode cX8_sings 32 = .ok (.iload_n 2, 1) := by decide +kernel
theorem dX8_sings_33 : decode cX8_sings 33 = .ok (.bipush 12, 2) := by decide +kernel
theorem dX8_sings_35 : decode cX8_sings 35 = .ok (.if_icmp .ne 8, 3) := by decide +kernel
theorem dX8_sings_38 : decode cX8_sings 38 = .ok (.bipush (-4), 2) := by decide +kernel
theorem dX8_sings_40 : decode cX8_sings 40 = .ok (.goto 4, 3) := by decide +kernel
theorem dX8_sings_43 : decode cX8_sings 43 = .ok (.iload_n 2, 1) := by decide +kernel
theorem dX8_sings_44 : decode cX8_sings 44 = .ok (.ireturn, 1) := by decide +kernel
def R_X8_sings (a1 : Int32) (σ : kS) (x : Int32) (τ : kS) : Prop := Run SX jX8_sings [(.ref 0), (.int a1)] σ (some (.int x)) τ
set_option maxRecDepth 20000 in
theorem t_X8_sings {a1 : Int32} {σ : kS} {x : Int32} {τ : kS}  (h : ((wn a1 (σ.1 3 2)) → ∃ (x3 : Int32) (s2 : kS), R_X1_singAll 3 σ x3 s2 ∧ (vp_in a1 5 ∧ ((¬ (s2.1 28 a1.toNatClampNeg) = (12 : Int32) → x = (s2.1 28 a1.toNatClampNeg) ∧ τ = s2) ∧ ((s2.1 28 a1.toNatClampNeg) = (12 : Int32) → x = (-4 : Int32) ∧ τ = s2)))) ∧ (¬ (wn a1 (σ.1 3 2)) → x = (-1 : Int32) ∧ τ = σ)) : R_X8_sings a1 σ x τ := by
  refine x_run [some (.ref 0), some (.int a1), none] (by decide +kernel) rfl (Nat.le_of_ble_eq_true rfl) ?_
  refine x_aload_n (pc := 0) 0 dX8_sings_0 rfl rfl ?_
  refine x_iload_n (pc := 1) 1 dX8_sings_1 rfl rfl ?_
  refine x_callV (pc := 2) [(.int a1)] [] dX8_sings_2 ⟨⟨hX8_isSinger.1, hX8_isSinger.2.1, hX8_isSinger.2.2, by decide⟩, mX8_117, vX8_isSinger.1, vX8_isSinger.2⟩ (ci := 8) rfl rfl rfl rfl (Nat.le_of_ble_eq_true rfl) (i_X8_isSinger) ?_
  refine x_bif_ne (pc := 5) 10 dX8_sings_5 (by decide) (fun c1 => ?_) (fun c1 => ?_)
  · replace h := h.1 c1
    refine x_aload_n (pc := 10) 0 dX8_sings_10 rfl rfl ?_
    refine x_getR (pc := 11) dX8_sings_11 fX8_40 rfl rfl ?_
    refine x_aload_n (pc := 14) 0 dX8_sings_14 rfl rfl ?_
    refine x_getR (pc := 15) dX8_sings_15 fX8_19 rfl rfl ?_
    obtain ⟨x3, s2, hr, h⟩ := h
    refine x_callV (pc := 18) [(.ref 3)] [] dX8_sings_18 ⟨⟨hX1_singAll.1, hX1_singAll.2.1, hX1_singAll.2.2, by decide⟩, mX8_173, vX1_singAll.1, vX1_singAll.2⟩ (ci := 1) rfl rfl rfl rfl (Nat.le_of_ble_eq_true rfl) hr ?_
    refine x_pop (pc := 21) dX8_sings_21 rfl ?_
    refine x_aload_n (pc := 22) 0 dX8_sings_22 rfl rfl ?_
    refine x_getR (pc := 23) dX8_sings_23 fX8_40 rfl rfl ?_
    refine x_getR (pc := 26) dX8_sings_26 fX8_176 rfl rfl ?_
    refine x_iload_n (pc := 29) 1 dX8_sings_29 rfl rfl ?_
    obtain ⟨g4, h⟩ := h
    refine x_iaload (pc := 30) (n := 5) dX8_sings_30 rfl g4 ?_
    refine x_istore_n (pc := 31) 2 dX8_sings_31 rfl (by decide) rfl ?_
    refine x_iload_n (pc := 32) 2 dX8_sings_32 rfl rfl ?_
    refine x_bipush (pc := 33) (12 : Int32) dX8_sings_33 (by decide +kernel) ?_
    refine x_icmp_ne (pc := 35) 43 dX8_sings_35 (by decide) (fun c5 => ?_) (fun c5 => ?_)
    · replace h := h.1 c5
      refine x_iload_n (pc := 43) 2 dX8_sings_43 rfl rfl ?_
      exact x_ireturn2 (pc := 44) dX8_sings_44 rfl h.1 h.2
    · replace h := h.2 c5
      refine x_bipush (pc := 38) (-4 : Int32) dX8_sings_38 (by decide +kernel) ?_
      refine x_goto (pc := 40) 44 dX8_sings_40 (by decide) ?_
      exact x_ireturn2 (pc := 44) dX8_sings_44 rfl h.1 h.2
  · replace h := h.2 c1
    refine x_iconst (pc := 8) (-1 : Int32) dX8_sings_8 (by decide +kernel) ?_
    exact x_ireturn2 (pc := 9) dX8_sings_9 rfl h.1 h.2
theorem dX8_ahead_0 : decode cX8_ahead 0 = .ok (.iload_n 2, 1) := by decide +kernel
theorem dX8_ahead_1 : decode cX8_ahead 1 = .ok (.iconst 2, 1) := by decide +kernel
theorem dX8_ahead_2 : decode cX8_ahead 2 = .ok (.invokestatic 70, 3) := by decide +kernel
theorem dX8_ahead_5 : decode cX8_ahead 5 = .ok (.ifCond .eq 16, 3) := by decide +kernel
theorem dX8_ahead_8 : decode cX8_ahead 8 = .ok (.iload_n 1, 1) := by decide +kernel
theorem dX8_ahead_9 : decode cX8_ahead 9 = .ok (.iconst 1, 1) := by decide +kernel
theorem dX8_ahead_10 : decode cX8_ahead 10 = .ok (.iload_n 2, 1) := by decide +kernel
theorem dX8_ahead_11 : decode cX8_ahead 11 = .ok (.isub, 1) := by decide +kernel
theorem dX8_ahead_12 : decode cX8_ahead 12 = .ok (.if_icmp .lt 9, 3) := by decide +kernel
theorem dX8_ahead_15 : decode cX8_ahead 15 = .ok (.iload_n 1, 1) := by decide +kernel
theorem dX8_ahead_16 : decode cX8_ahead 16 = .ok (.bipush 60, 2) := by decide +kernel
theorem dX8_ahead_18 : decode cX8_ahead 18 = .ok (.if_icmp .le 5, 3) := by decide +kernel
theorem dX8_ahead_21 : decode cX8_ahead 21 = .ok (.iconst (-1), 1) := by decide +kernel
theorem dX8_ahead_22 : decode cX8_ahead 22 = .ok (.ireturn, 1) := by decide +kernel
theorem dX8_ahead_23 : decode cX8_ahead 23 = .ok (.aload_n 0, 1) := by decide +kernel
theorem dX8_ahead_24 : decode cX8_ahead 24 = .ok (.getfield 19, 3) := by decide +kernel
theorem dX8_ahead_27 : decode cX8_ahead 27 = .ok (.invokevirtual 143, 3) := by decide +kernel
theorem dX8_ahead_30 : decode cX8_ahead 30 = .ok (.ifCond .ne 6, 3) := by decide +kernel
theorem dX8_ahead_33 : decode cX8_ahead 33 = .ok (.bipush (-2), 2) := by decide +kernel
theorem dX8_ahead_35 : decode cX8_ahead 35 = .ok (.ireturn, 1) := by decide +kernel
theorem dX8_ahead_36 : decode cX8_ahead 36 = .ok (.aload_n 0, 1) := by decide +kernel
theorem dX8_ahead_37 : decode cX8_ahead 37 = .ok (.getfield 23, 3) := by decide +kernel
theorem dX8_ahead_40 : decode cX8_ahead 40 = .ok (.aload_n 0, 1) := by decide +kernel
theorem dX8_ahead_41 : decode cX8_ahead 41 = .ok (.getfield 19, 3) := by decide +kernel
theorem dX8_ahead_44 : decode cX8_ahead 44 = .ok (.invokevirtual 170, 3) := by decide +kernel
theorem dX8_ahead_47 : decode cX8_ahead 47 = .ok (.iconst 0, 1) := by decide +kernel
theorem dX8_ahead_48 : decode cX8_ahead 48 = .ok (.istore_n 3, 1) := by decide +kernel
theorem dX8_ahead_49 : decode cX8_ahead 49 = .ok (.iconst 0, 1) := by decide +kernel
theorem dX8_ahead_50 : decode cX8_ahead 50 = .ok (.istore 4, 2) := by decide +kernel
theorem dX8_ahead_52 : decode cX8_ahead 52 = .ok (.iload 4, 2) := by decide +kernel
theorem dX8_ahead_54 : decode cX8_ahead 54 = .ok (.iload_n 1, 1) := by decide +kernel
theorem dX8_ahead_55 : decode cX8_ahead 55 = .ok (.if_icmp .ge 21, 3) := by decide +kernel
theorem dX8_ahead_58 : decode cX8_ahead 58 = .ok (.aload_n 0, 1) := by decide +kernel
theorem dX8_ahead_59 : decode cX8_ahead 59 = .ok (.getfield 40, 3) := by decide +kernel
theorem dX8_ahead_62 : decode cX8_ahead 62 = .ok (.aload_n 0, 1) := by decide +kernel
theorem dX8_ahead_63 : decode cX8_ahead 63 = .ok (.getfield 23, 3) := by decide +kernel
theorem dX8_ahead_66 : decode cX8_ahead 66 = .ok (.invokevirtual 158, 3) := by decide +kernel
theorem dX8_ahead_69 : decode cX8_ahead 69 = .ok (.istore_n 3, 1) := by decide +kernel
theorem dX8_ahead_70 : decode cX8_ahead 70 = .ok (.iinc 4 1, 3) := by decide +kernel
theorem dX8_ahead_73 : decode cX8_ahead 73 = .ok (.goto (-21), 3) := by decide +kernel
theorem dX8_ahead_76 : decode cX8_ahead 76 = .ok (.iload_n 2, 1) := by decide +kernel
theorem dX8_ahead_77 : decode cX8_ahead 77 = .ok (.ifCond .ne 7, 3) := by decide +kernel
theorem dX8_ahead_80 : decode cX8_ahead 80 = .ok (.iload_n 3, 1) := by decide +kernel
theorem dX8_ahead_81 : decode cX8_ahead 81 = .ok (.goto 10, 3) := by decide +kernel
theorem dX8_ahead_84 : decode cX8_ahead 84 = .ok (.aload_n 0, 1) := by decide +kernel
theorem dX8_ahead_85 : decode cX8_ahead 85 = .ok (.getfield 23, 3) := by decide +kernel
theorem dX8_ahead_88 : decode cX8_ahead 88 = .ok (.invokevirtual 179, 3) := by decide +kernel
theorem dX8_ahead_91 : decode cX8_ahead 91 = .ok (.ireturn, 1) := by decide +kernel
def R_X8_ahead (a1 : Int32) (a2 : Int32) (σ : kS) (x : Int32) (τ : kS) : Prop := Run SX jX8_ahead [(.ref 0), (.int a1), (.int a2)] σ (some (.int x)) τ
def E_X8_ahead_52 (l1 : Int32) (l2 : Int32) (l3 : Int32) (l4 : Int32) (σ : kS) (x : Int32) (τ : kS) : Prop := Ex SX jX8_ahead 52 [some (.ref 0), some (.int l1), some (.int l2), some (.int l3), some (.int l4)] [] σ (some (.int x)) τ
set_option maxRecDepth 20000 in
theorem t_X8_ahead {a1 : Int32} {a2 : Int32} {σ : kS} {x : Int32} {τ : kS}  (h : (¬ (wn a2 (2 : Int32)) → x = (-1 : Int32) ∧ τ = σ) ∧ ((wn a2 (2 : Int32)) → (a1 < ((1 : Int32) - a2) → x = (-1 : Int32) ∧ τ = σ) ∧ (¬ a1 < ((1 : Int32) - a2) → (a1 ≤ (60 : Int32) → ((0 < (σ.1 3 1) ∧ 0 < (σ.1 3 2)) → ∃ s5 : kS, R_X7_become 11 3 σ s5 ∧ (E_X8_ahead_52 a1 a2 (0 : Int32) (0 : Int32) s5 x τ)) ∧ (¬ (0 < (σ.1 3 1) ∧ 0 < (σ.1 3 2)) → x = (-2 : Int32) ∧ τ = σ)) ∧ (¬ a1 ≤ (60 : Int32) → x = (-1 : Int32) ∧ τ = σ)))) : R_X8_ahead a1 a2 σ x τ := by
  refine x_run [some (.ref 0), some (.int a1), some (.int a2), none, none] (by decide +kernel) rfl (Nat.le_of_ble_eq_true rfl) ?_
  refine x_iload_n (pc := 0) 2 dX8_ahead_0 rfl rfl ?_
  refine x_iconst (pc := 1) (2 : Int32) dX8_ahead_1 (by decide +kernel) ?_
  refine x_callS (pc := 2) [(.int a2), (.int (2 : Int32))] [] dX8_ahead_2 ⟨⟨hX8_within.1, hX8_within.2.1, hX8_within.2.2, by decide⟩, mX8_70, sX8_within⟩ rfl rfl (Nat.le_of_ble_eq_true rfl) (i_X8_within) ?_
  refine x_bif_eq (pc := 5) 21 dX8_ahead_5 (by decide) (fun c1 => ?_) (fun c1 => ?_)
  · replace h := h.1 c1
    refine x_iconst (pc := 21) (-1 : Int32) dX8_ahead_21 (by decide +kernel) ?_
    exact x_ireturn2 (pc := 22) dX8_ahead_22 rfl h.1 h.2
  · replace h := h.2 c1
    refine x_iload_n (pc := 8) 1 dX8_ahead_8 rfl rfl ?_
    refine x_iconst (pc := 9) (1 : Int32) dX8_ahead_9 (by decide +kernel) ?_
    refine x_iload_n (pc := 10) 2 dX8_ahead_10 rfl rfl ?_
    refine x_isub (pc := 11) dX8_ahead_11 ?_
    refine x_icmp_lt (pc := 12) 21 dX8_ahead_12 (by decide) (fun c2 => ?_) (fun c2 => ?_)
    · replace h := h.1 c2
      refine x_iconst (pc := 21) (-1 : Int32) dX8_ahead_21 (by decide +kernel) ?_
      exact x_ireturn2 (pc := 22) dX8_ahead_22 rfl h.1 h.2
    · replace h := h.2 c2
      refine x_iload_n (pc := 15) 1 dX8_ahead_15 rfl rfl ?_
      refine x_bipush (pc := 16) (60 : Int32) dX8_ahead_16 (by decide +kernel) ?_
      refine x_icmp_le (pc := 18) 23 dX8_ahead_18 (by decide) (fun c3 => ?_) (fun c3 => ?_)
      · replace h := h.1 c3
        refine x_aload_n (pc := 23) 0 dX8_ahead_23 rfl rfl ?_
        refine x_getR (pc := 24) dX8_ahead_24 fX8_19 rfl rfl ?_
        refine x_callV (pc := 27) [] [] dX8_ahead_27 ⟨⟨hX7_isThere.1, hX7_isThere.2.1, hX7_isThere.2.2, by decide⟩, mX8_143, vX7_isThere.1, vX7_isThere.2⟩ (ci := 7) rfl rfl rfl rfl (Nat.le_of_ble_eq_true rfl) (i_X7_isThere rfl) ?_
        refine x_bif_ne (pc := 30) 36 dX8_ahead_30 (by decide) (fun c4 => ?_) (fun c4 => ?_)
        · replace h := h.1 c4
          refine x_aload_n (pc := 36) 0 dX8_ahead_36 rfl rfl ?_
          refine x_getR (pc := 37) dX8_ahead_37 fX8_23 rfl rfl ?_
          refine x_aload_n (pc := 40) 0 dX8_ahead_40 rfl rfl ?_
          refine x_getR (pc := 41) dX8_ahead_41 fX8_19 rfl rfl ?_
          obtain ⟨s5, hr, h⟩ := h
          refine x_callV (pc := 44) [(.ref 3)] [] dX8_ahead_44 ⟨⟨hX7_become.1, hX7_become.2.1, hX7_become.2.2, by decide⟩, mX8_170, vX7_become.1, vX7_become.2⟩ (ci := 7) rfl rfl rfl rfl (Nat.le_of_ble_eq_true rfl) hr ?_
          refine x_iconst (pc := 47) (0 : Int32) dX8_ahead_47 (by decide +kernel) ?_
          refine x_istore_n (pc := 48) 3 dX8_ahead_48 rfl (by decide) rfl ?_
          refine x_iconst (pc := 49) (0 : Int32) dX8_ahead_49 (by decide +kernel) ?_
          refine x_istore (pc := 50) dX8_ahead_50 (by decide) rfl ?_
          exact h
        · replace h := h.2 c4
          refine x_bipush (pc := 33) (-2 : Int32) dX8_ahead_33 (by decide +kernel) ?_
          exact x_ireturn2 (pc := 35) dX8_ahead_35 rfl h.1 h.2
      · replace h := h.2 c3
        refine x_iconst (pc := 21) (-1 : Int32) dX8_ahead_21 (by decide +kernel) ?_
        exact x_ireturn2 (pc := 22) dX8_ahead_22 rfl h.1 h.2
set_option maxRecDepth 20000 in
theorem t_X8_ahead_52 {l1 : Int32} {l2 : Int32} {l3 : Int32} {l4 : Int32} {σ : kS} {x : Int32} {τ : kS}  (h : (l1 ≤ l4 → (¬ l2 = 0 → ∃ (x4 : Int32) (s3 : kS), R_X7_tiredInAll 11 σ x4 s3 ∧ (x = x4 ∧ τ = s3)) ∧ (l2 = 0 → x = l3 ∧ τ = σ)) ∧ (¬ l1 ≤ l4 → ∃ (x6 : Int32) (s5 : kS), R_X1_passHour 11 σ x6 s5 ∧ (E_X8_ahead_52 l1 l2 x6 (l4 + (1 : Int32)) s5 x τ))) : E_X8_ahead_52 l1 l2 l3 l4 σ x τ := by
  unfold E_X8_ahead_52
  refine x_iload (pc := 52) dX8_ahead_52 rfl ?_
  refine x_iload_n (pc := 54) 1 dX8_ahead_54 rfl rfl ?_
  refine x_icmp_ge (pc := 55) 76 dX8_ahead_55 (by decide) (fun c1 => ?_) (fun c1 => ?_)
  · replace h := h.1 c1
    refine x_iload_n (pc := 76) 2 dX8_ahead_76 rfl rfl ?_
    refine x_if_ne (pc := 77) 84 dX8_ahead_77 (by decide) (fun c2 => ?_) (fun c2 => ?_)
    · replace h := h.1 c2
      refine x_aload_n (pc := 84) 0 dX8_ahead_84 rfl rfl ?_
      refine x_getR (pc := 85) dX8_ahead_85 fX8_23 rfl rfl ?_
      obtain ⟨x4, s3, hr, h⟩ := h
      refine x_callV (pc := 88) [] [] dX8_ahead_88 ⟨⟨hX7_tiredInAll.1, hX7_tiredInAll.2.1, hX7_tiredInAll.2.2, by decide⟩, mX8_179, vX7_tiredInAll.1, vX7_tiredInAll.2⟩ (ci := 7) rfl rfl rfl rfl (Nat.le_of_ble_eq_true rfl) hr ?_
      exact x_ireturn2 (pc := 91) dX8_ahead_91 rfl h.1 h.2
    · replace h := h.2 c2
      refine x_iload_n (pc := 80) 3 dX8_ahead_80 rfl rfl ?_
      refine x_goto (pc := 81) 91 dX8_ahead_81 (by decide) ?_
      exact x_ireturn2 (pc := 91) dX8_ahead_91 rfl h.1 h.2
  · replace h := h.2 c1
    refine x_aload_n (pc := 58) 0 dX8_ahead_58 rfl rfl ?_
    refine x_getR (pc := 59) dX8_ahead_59 fX8_40 rfl rfl ?_
    refine x_aload_n (pc := 62) 0 dX8_ahead_62 rfl rfl ?_
    refine x_getR (pc := 63) dX8_ahead_63 fX8_23 rfl rfl ?_
    obtain ⟨x6, s5, hr, h⟩ := h
    refine x_callV (pc := 66) [(.ref 11)] [] dX8_ahead_66 ⟨⟨hX1_passHour.1, hX1_passHour.2.1, hX1_passHour.2.2, by decide⟩, mX8_158, vX1_passHour.1, vX1_passHour.2⟩ (ci := 1) rfl rfl rfl rfl (Nat.le_of_ble_eq_true rfl) hr ?_
    refine x_istore_n (pc := 69) 3 dX8_ahead_69 rfl (by decide) rfl ?_
    refine x_iinc (pc := 70) (1 : Int32) dX8_ahead_70 (by decide) rfl rfl (by decide +kernel) ?_
    refine x_goto (pc := 73) 52 dX8_ahead_73 (by decide) ?_
    exact h
theorem dX8_fills_0 : decode cX8_fills 0 = .ok (.aload_n 0, 1) := by decide +kernel
theorem dX8_fills_1 : decode cX8_fills 1 = .ok (.iload_n 1, 1) := by decide +kernel
theorem dX8_fills_2 : decode cX8_fills 2 = .ok (.invokevirtual 103, 3) := by decide +kernel
theorem dX8_fills_5 : decode cX8_fills 5 = .ok (.ifCond .ne 5, 3) := by decide +kernel
theorem dX8_fills_8 : decode cX8_fills 8 = .ok (.iconst (-1), 1) := by decide +kernel
theorem dX8_fills_9 : decode cX8_fills 9 = .ok (.ireturn, 1) := by decide +kernel
theorem dX8_fills_10 : decode cX8_fills 10 = .ok (.bipush (-4), 2) := by decide +kernel
theorem dX8_fills_12 : decode cX8_fills 12 = .ok (.istore_n 2, 1) := by decide +kernel
theorem dX8_fills_13 : decode cX8_fills 13 = .ok (.bipush 6, 2) := by decide +kernel
theorem dX8_fills_15 : decode cX8_fills 15 = .ok (.istore_n 3, 1) := by decide +kernel
theorem dX8_fills_16 : decode cX8_fills 16 = .ok (.iconst 0, 1) := by decide +kernel
theorem dX8_fills_17 : decode cX8_fills 17 = .ok (.istore 4, 2) := by decide +kernel
theorem dX8_fills_19 : decode cX8_fills 19 = .ok (.iload 4, 2) := by decide +kernel
theorem dX8_fills_21 : decode cX8_fills 21 = .ok (.iconst 1, 1) := by decide +kernel
theorem dX8_fills_22 : decode cX8_fills 22 = .ok (.aload_n 0, 1) := by decide +kernel
theorem dX8_fills_23 : decode cX8_fills 23 = .ok (.getfield 19, 3) := by decide +kernel
theorem dX8_fills_26 : decode cX8_fills 26 = .ok (.getfield 93, 3) := by decide +kernel
theorem dX8_fills_29 : decode cX8_fills 29 = .ok (.ishl, 1) := by decide +kernel
theorem dX8_fills_30 : decode cX8_fills 30 = .ok (.if_icmp .ge 44, 3) := by decide +kernel
theorem dX8_fills_33 : decode cX8_fills 33 = .ok (.iload 4, 2) := by decide +kernel
theorem dX8_fills_35 : decode cX8_fills 35 = .ok (.invokestatic 182, 3) := by decide +kernel
theorem dX8_fills_38 : decode cX8_fills 38 = .ok (.iload_n 3, 1) := by decide +kernel
theorem dX8_fills_39 : decode cX8_fills 39 = .ok (.if_icmp .ge 29, 3) := by decide +kernel
theorem dX8_fills_42 : decode cX8_fills 42 = .ok (.aload_n 0, 1) := by decide +kernel
theorem dX8_fills_43 : decode cX8_fills 43 = .ok (.getfield 40, 3) := by decide +kernel
theorem dX8_fills_46 : decode cX8_fills 46 = .ok (.aload_n 0, 1) := by decide +kernel
theorem dX8_fills_47 : decode cX8_fills 47 = .ok (.getfield 19, 3) := by decide +kernel
theorem dX8_fills_50 : decode cX8_fills 50 = .ok (.iload_n 1, 1) := by decide +kernel
theorem dX8_fills_51 : decode cX8_fills 51 = .ok (.iload 4, 2) := by decide +kernel
theorem dX8_fills_53 : decode cX8_fills 53 = .ok (.invokevirtual 187, 3) := by decide +kernel
theorem dX8_fills_56 : decode cX8_fills 56 = .ok (.ifCond .eq 12, 3) := by decide +kernel
theorem dX8_fills_59 : decode cX8_fills 59 = .ok (.iload 4, 2) := by decide +kernel
theorem dX8_fills_61 : decode cX8_fills 61 = .ok (.istore_n 2, 1) := by decide +kernel
theorem dX8_fills_62 : decode cX8_fills 62 = .ok (.iload 4, 2) := by decide +kernel
theorem dX8_fills_64 : decode cX8_fills 64 = .ok (.invokestatic 182, 3) := by decide +kernel
theorem dX8_fills_67 : decode cX8_fills 67 = .ok (.istore_n 3, 1) := by decide +kernel
theorem dX8_fills_68 : decode cX8_fills 68 = .ok (.iinc 4 1, 3) := by decide +kernel
theorem dX8_fills_71 : decode cX8_fills 71 = .ok (.goto (-52), 3) := by decide +kernel
theorem dX8_fills_74 : decode cX8_fills 74 = .ok (.iload_n 2, 1) := by decide +kernel
theorem dX8_fills_75 : decode cX8_fills 75 = .ok (.ireturn, 1) := by decide +kernel
def R_X8_fills (a1 : Int32) (σ : kS) (x : Int32) (τ : kS) : Prop := Run SX jX8_fills [(.ref 0), (.int a1)] σ (some (.int x)) τ
def E_X8_fills_19 (l1 : Int32) (l2 : Int32) (l3 : Int32) (l4 : Int32) (σ : kS) (x : Int32) (τ : kS) : Prop := Ex SX jX8_fills 19 [some (.ref 0), some (.int l1), some (.int l2), some (.int l3), some (.int l4)] [] σ (some (.int x)) τ
set_option maxRecDepth 20000 in
theorem t_X8_fills {a1 : Int32} {σ : kS} {x : Int32} {τ : kS}  (h : ((wn a1 (σ.1 3 1)) → E_X8_fills_19 a1 (-4 : Int32) (6 : Int32) (0 : Int32) σ x τ) ∧ (¬ (wn a1 (σ.1 3 1)) → x = (-1 : Int32) ∧ τ = σ)) : R_X8_fills a1 σ x τ := by
  refine x_run [some (.ref 0), some (.int a1), none, none, none] (by decide +kernel) rfl (Nat.le_of_ble_eq_true rfl) ?_
  refine x_aload_n (pc := 0) 0 dX8_fills_0 rfl rfl ?_
  refine x_iload_n (pc := 1) 1 dX8_fills_1 rfl rfl ?_
  refine x_callV (pc := 2) [(.int a1)] [] dX8_fills_2 ⟨⟨hX8_isField.1, hX8_isField.2.1, hX8_isField.2.2, by decide⟩, mX8_103, vX8_isField.1, vX8_isField.2⟩ (ci := 8) rfl rfl rfl rfl (Nat.le_of_ble_eq_true rfl) (i_X8_isField) ?_
  refine x_bif_ne (pc := 5) 10 dX8_fills_5 (by decide) (fun c1 => ?_) (fun c1 => ?_)
  · replace h := h.1 c1
    refine x_bipush (pc := 10) (-4 : Int32) dX8_fills_10 (by decide +kernel) ?_
    refine x_istore_n (pc := 12) 2 dX8_fills_12 rfl (by decide) rfl ?_
    refine x_bipush (pc := 13) (6 : Int32) dX8_fills_13 (by decide +kernel) ?_
    refine x_istore_n (pc := 15) 3 dX8_fills_15 rfl (by decide) rfl ?_
    refine x_iconst (pc := 16) (0 : Int32) dX8_fills_16 (by decide +kernel) ?_
    refine x_istore (pc := 17) dX8_fills_17 (by decide) rfl ?_
    exact h
  · replace h := h.2 c1
    refine x_iconst (pc := 8) (-1 : Int32) dX8_fills_8 (by decide +kernel) ?_
    exact x_ireturn2 (pc := 9) dX8_fills_9 rfl h.1 h.2
set_option maxRecDepth 20000 in
theorem t_X8_fills_19 {l1 : Int32} {l2 : Int32} {l3 : Int32} {l4 : Int32} {σ : kS} {x : Int32} {τ : kS}  (h : (((1 : Int32) <<< ((σ.1 3 2) &&& 31)) ≤ l4 → x = l2 ∧ τ = σ) ∧ (¬ ((1 : Int32) <<< ((σ.1 3 2) &&& 31)) ≤ l4 → ∃ (x3 : Int32) (s2 : kS), R_J6_bitCount_0f7a4 l4 σ x3 s2 ∧ ((l3 ≤ x3 → E_X8_fills_19 l1 l2 l3 (l4 + (1 : Int32)) s2 x τ) ∧ (¬ l3 ≤ x3 → ∃ (x6 : Int32) (s5 : kS), R_X1_sing 3 l1 l4 s2 x6 s5 ∧ ((x6 = 0 → E_X8_fills_19 l1 l2 l3 (l4 + (1 : Int32)) s5 x τ) ∧ (¬ x6 = 0 → ∃ (x9 : Int32) (s8 : kS), R_J6_bitCount_0f7a4 l4 s5 x9 s8 ∧ (E_X8_fills_19 l1 l4 x9 (l4 + (1 : Int32)) s8 x τ))))))) : E_X8_fills_19 l1 l2 l3 l4 σ x τ := by
  unfold E_X8_fills_19
  refine x_iload (pc := 19) dX8_fills_19 rfl ?_
  refine x_iconst (pc := 21) (1 : Int32) dX8_fills_21 (by decide +kernel) ?_
  refine x_aload_n (pc := 22) 0 dX8_fills_22 rfl rfl ?_
  refine x_getR (pc := 23) dX8_fills_23 fX8_19 rfl rfl ?_
  refine x_getI (pc := 26) dX8_fills_26 fX8_93 rfl rfl ?_
  refine x_ishl (pc := 29) dX8_fills_29 ?_
  refine x_icmp_ge (pc := 30) 74 dX8_fills_30 (by decide) (fun c1 => ?_) (fun c1 => ?_)
  · replace h := h.1 c1
    refine x_iload_n (pc := 74) 2 dX8_fills_74 rfl rfl ?_
    exact x_ireturn2 (pc := 75) dX8_fills_75 rfl h.1 h.2
  · replace h := h.2 c1
    refine x_iload (pc := 33) dX8_fills_33 rfl ?_
    obtain ⟨x3, s2, hr, h⟩ := h
    refine x_callS (pc := 35) [(.int l4)] [] dX8_fills_35 ⟨⟨hJ6_bitCount_0f7a4.1, hJ6_bitCount_0f7a4.2.1, hJ6_bitCount_0f7a4.2.2, by decide⟩, mX8_182, sJ6_bitCount_0f7a4⟩ rfl rfl (Nat.le_of_ble_eq_true rfl) hr ?_
    refine x_iload_n (pc := 38) 3 dX8_fills_38 rfl rfl ?_
    refine x_icmp_ge (pc := 39) 68 dX8_fills_39 (by decide) (fun c4 => ?_) (fun c4 => ?_)
    · replace h := h.1 c4
      refine x_iinc (pc := 68) (1 : Int32) dX8_fills_68 (by decide) rfl rfl (by decide +kernel) ?_
      refine x_goto (pc := 71) 19 dX8_fills_71 (by decide) ?_
      exact h
    · replace h := h.2 c4
      refine x_aload_n (pc := 42) 0 dX8_fills_42 rfl rfl ?_
      refine x_getR (pc := 43) dX8_fills_43 fX8_40 rfl rfl ?_
      refine x_aload_n (pc := 46) 0 dX8_fills_46 rfl rfl ?_
      refine x_getR (pc := 47) dX8_fills_47 fX8_19 rfl rfl ?_
      refine x_iload_n (pc := 50) 1 dX8_fills_50 rfl rfl ?_
      refine x_iload (pc := 51) dX8_fills_51 rfl ?_
      obtain ⟨x6, s5, hr, h⟩ := h
      refine x_callV (pc := 53) [(.ref 3), (.int l1), (.int l4)] [] dX8_fills_53 ⟨⟨hX1_sing.1, hX1_sing.2.1, hX1_sing.2.2, by decide⟩, mX8_187, vX1_sing.1, vX1_sing.2⟩ (ci := 1) rfl rfl rfl rfl (Nat.le_of_ble_eq_true rfl) hr ?_
      refine x_if_eq (pc := 56) 68 dX8_fills_56 (by decide) (fun c7 => ?_) (fun c7 => ?_)
      · replace h := h.1 c7
        refine x_iinc (pc := 68) (1 : Int32) dX8_fills_68 (by decide) rfl rfl (by decide +kernel) ?_
        refine x_goto (pc := 71) 19 dX8_fills_71 (by decide) ?_
        exact h
      · replace h := h.2 c7
        refine x_iload (pc := 59) dX8_fills_59 rfl ?_
        refine x_istore_n (pc := 61) 2 dX8_fills_61 rfl (by decide) rfl ?_
        refine x_iload (pc := 62) dX8_fills_62 rfl ?_
        obtain ⟨x9, s8, hr, h⟩ := h
        refine x_callS (pc := 64) [(.int l4)] [] dX8_fills_64 ⟨⟨hJ6_bitCount_0f7a4.1, hJ6_bitCount_0f7a4.2.1, hJ6_bitCount_0f7a4.2.2, by decide⟩, mX8_182, sJ6_bitCount_0f7a4⟩ rfl rfl (Nat.le_of_ble_eq_true rfl) hr ?_
        refine x_istore_n (pc := 67) 3 dX8_fills_67 rfl (by decide) rfl ?_
        refine x_iinc (pc := 68) (1 : Int32) dX8_fills_68 (by decide) rfl rfl (by decide +kernel) ?_
        refine x_goto (pc := 71) 19 dX8_fills_71 (by decide) ?_
        exact h
theorem dX8_stands_0 : decode cX8_stands 0 = .ok (.iload_n 1, 1) := by decide +kernel
theorem dX8_stands_1 : decode cX8_stands 1 = .ok (.iconst (-1), 1) := by decide +kernel
theorem dX8_stands_2 : decode cX8_stands 2 = .ok (.if_icmp .eq 13, 3) := by decide +kernel
theorem dX8_stands_5 : decode cX8_stands 5 = .ok (.aload_n 0, 1) := by decide +kernel
theorem dX8_stands_6 : decode cX8_stands 6 = .ok (.iload_n 1, 1) := by decide +kernel
theorem dX8_stands_7 : decode cX8_stands 7 = .ok (.invokevirtual 117, 3) := by decide +kernel
theorem dX8_stands_10 : decode cX8_stands 10 = .ok (.ifCond .ne 5, 3) := by decide +kernel
theorem dX8_stands_13 : decode cX8_stands 13 = .ok (.iconst (-1), 1) := by decide +kernel
theorem dX8_stands_14 : decode cX8_stands 14 = .ok (.ireturn, 1) := by decide +kernel
theorem dX8_stands_15 : decode cX8_stands 15 = .ok (.aload_n 0, 1) := by decide +kernel
theorem dX8_stands_16 : decode cX8_stands 16 = .ok (.getfield 19, 3) := by decide +kernel
theorem dX8_stands_19 : decode cX8_stands 19 = .ok (.invokevirtual 143, 3) := by decide +kernel
theorem dX8_stands_22 : decode cX8_stands 22 = .ok (.ifCond .ne 6, 3) := by decide +kernel
theorem dX8_stands_25 : decode cX8_stands 25 = .ok (.bipush (-2), 2) := by decide +kernel
theorem dX8_stands_27 : decode cX8_stands 27 = .ok (.ireturn, 1) := by decide +kernel
theorem dX8_stands_28 : decode cX8_stands 28 = .ok (.aload_n 0, 1) := by decide +kernel
theorem dX8_stands_29 : decode cX8_stands 29 = .ok (.getfield 52, 3) := by decide +kernel
theorem dX8_stands_32 : decode cX8_stands 32 = .ok (.aload_n 0, 1) := by decide +kernel
theorem dX8_stands_33 : decode cX8_stands 33 = .ok (.getfield 19, 3) := by decide +kernel
theorem dX8_stands_36 : decode cX8_stands 36 = .ok (.aload_n 0, 1) := by decide +kernel
theorem dX8_stands_37 : decode cX8_stands 37 = .ok (.getfield 40, 3) := by decide +kernel
theorem dX8_stands_40 : decode cX8_stands 40 = .ok (.invokevirtual 191, 3) := by decide +kernel
theorem dX8_stands_43 : decode cX8_stands 43 = .ok (.iload_n 1, 1) := by decide +kernel
theorem dX8_stands_44 : decode cX8_stands 44 = .ok (.iconst (-1), 1) := by decide +kernel
theorem dX8_stands_45 : decode cX8_stands 45 = .ok (.if_icmp .ne 13, 3) := by decide +kernel
theorem dX8_stands_48 : decode cX8_stands 48 = .ok (.aload_n 0, 1) := by decide +kernel
theorem dX8_stands_49 : decode cX8_stands 49 = .ok (.getfield 52, 3) := by decide +kernel
theorem dX8_stands_52 : decode cX8_stands 52 = .ok (.invokevirtual 195, 3) := by decide +kernel
theorem dX8_stands_55 : decode cX8_stands 55 = .ok (.goto 14, 3) := by decide +kernel
theorem dX8_stands_58 : decode cX8_stands 58 = .ok (.aload_n 0, 1) := by decide +kernel
theorem dX8_stands_59 : decode cX8_stands 59 = .ok (.getfield 52, 3) := by decide +kernel
theorem dX8_stands_62 : decode cX8_stands 62 = .ok (.iload_n 1, 1) := by decide +kernel
theorem dX8_stands_63 : decode cX8_stands 63 = .ok (.invokevirtual 198, 3) := by decide +kernel
theorem dX8_stands_66 : decode cX8_stands 66 = .ok (.invokestatic 134, 3) := by decide +kernel
theorem dX8_stands_69 : decode cX8_stands 69 = .ok (.ireturn, 1) := by decide +kernel
def R_X8_stands (a1 : Int32) (σ : kS) (x : Int32) (τ : kS) : Prop := Run SX jX8_stands [(.ref 0), (.int a1)] σ (some (.int x)) τ
def E_X8_stands_15 (l1 : Int32) (σ : kS) (x : Int32) (τ : kS) : Prop := Ex SX jX8_stands 15 [some (.ref 0), some (.int l1)] [] σ (some (.int x)) τ
set_option maxRecDepth 20000 in
theorem t_X8_stands {a1 : Int32} {σ : kS} {x : Int32} {τ : kS}  (h : (a1 = (-1 : Int32) → E_X8_stands_15 a1 σ x τ) ∧ (¬ a1 = (-1 : Int32) → ((wn a1 (σ.1 3 2)) → E_X8_stands_15 a1 σ x τ) ∧ (¬ (wn a1 (σ.1 3 2)) → x = (-1 : Int32) ∧ τ = σ))) : R_X8_stands a1 σ x τ := by
  refine x_run [some (.ref 0), some (.int a1)] (by decide +kernel) rfl (Nat.le_of_ble_eq_true rfl) ?_
  refine x_iload_n (pc := 0) 1 dX8_stands_0 rfl rfl ?_
  refine x_iconst (pc := 1) (-1 : Int32) dX8_stands_1 (by decide +kernel) ?_
  refine x_icmp_eq (pc := 2) 15 dX8_stands_2 (by decide) (fun c1 => ?_) (fun c1 => ?_)
  · replace h := h.1 c1
    exact h
  · replace h := h.2 c1
    refine x_aload_n (pc := 5) 0 dX8_stands_5 rfl rfl ?_
    refine x_iload_n (pc := 6) 1 dX8_stands_6 rfl rfl ?_
    refine x_callV (pc := 7) [(.int a1)] [] dX8_stands_7 ⟨⟨hX8_isSinger.1, hX8_isSinger.2.1, hX8_isSinger.2.2, by decide⟩, mX8_117, vX8_isSinger.1, vX8_isSinger.2⟩ (ci := 8) rfl rfl rfl rfl (Nat.le_of_ble_eq_true rfl) (i_X8_isSinger) ?_
    refine x_bif_ne (pc := 10) 15 dX8_stands_10 (by decide) (fun c2 => ?_) (fun c2 => ?_)
    · replace h := h.1 c2
      exact h
    · replace h := h.2 c2
      refine x_iconst (pc := 13) (-1 : Int32) dX8_stands_13 (by decide +kernel) ?_
      exact x_ireturn2 (pc := 14) dX8_stands_14 rfl h.1 h.2
set_option maxRecDepth 20000 in
theorem t_X8_stands_15 {l1 : Int32} {σ : kS} {x : Int32} {τ : kS}  (h : ((0 < (σ.1 3 1) ∧ 0 < (σ.1 3 2)) → ∃ s2 : kS, R_X5_find  σ s2 ∧ ((¬ l1 = (-1 : Int32) → ∃ (x5 : Int32) (s4 : kS), R_X5_bestPlace l1 s2 x5 s4 ∧ (x = (tP x5) ∧ τ = s4)) ∧ (l1 = (-1 : Int32) → ∃ (x7 : Int32) (s6 : kS), R_X5_fullFields  s2 x7 s6 ∧ (x = x7 ∧ τ = s6)))) ∧ (¬ (0 < (σ.1 3 1) ∧ 0 < (σ.1 3 2)) → x = (-2 : Int32) ∧ τ = σ)) : E_X8_stands_15 l1 σ x τ := by
  unfold E_X8_stands_15
  refine x_aload_n (pc := 15) 0 dX8_stands_15 rfl rfl ?_
  refine x_getR (pc := 16) dX8_stands_16 fX8_19 rfl rfl ?_
  refine x_callV (pc := 19) [] [] dX8_stands_19 ⟨⟨hX7_isThere.1, hX7_isThere.2.1, hX7_isThere.2.2, by decide⟩, mX8_143, vX7_isThere.1, vX7_isThere.2⟩ (ci := 7) rfl rfl rfl rfl (Nat.le_of_ble_eq_true rfl) (i_X7_isThere rfl) ?_
  refine x_bif_ne (pc := 22) 28 dX8_stands_22 (by decide) (fun c1 => ?_) (fun c1 => ?_)
  · replace h := h.1 c1
    refine x_aload_n (pc := 28) 0 dX8_stands_28 rfl rfl ?_
    refine x_getR (pc := 29) dX8_stands_29 fX8_52 rfl rfl ?_
    refine x_aload_n (pc := 32) 0 dX8_stands_32 rfl rfl ?_
    refine x_getR (pc := 33) dX8_stands_33 fX8_19 rfl rfl ?_
    refine x_aload_n (pc := 36) 0 dX8_stands_36 rfl rfl ?_
    refine x_getR (pc := 37) dX8_stands_37 fX8_40 rfl rfl ?_
    obtain ⟨s2, hr, h⟩ := h
    refine x_callV (pc := 40) [(.ref 3), (.ref 27)] [] dX8_stands_40 ⟨⟨hX5_find.1, hX5_find.2.1, hX5_find.2.2, by decide⟩, mX8_191, vX5_find.1, vX5_find.2⟩ (ci := 5) rfl rfl rfl rfl (Nat.le_of_ble_eq_true rfl) hr ?_
    refine x_iload_n (pc := 43) 1 dX8_stands_43 rfl rfl ?_
    refine x_iconst (pc := 44) (-1 : Int32) dX8_stands_44 (by decide +kernel) ?_
    refine x_icmp_ne (pc := 45) 58 dX8_stands_45 (by decide) (fun c3 => ?_) (fun c3 => ?_)
    · replace h := h.1 c3
      refine x_aload_n (pc := 58) 0 dX8_stands_58 rfl rfl ?_
      refine x_getR (pc := 59) dX8_stands_59 fX8_52 rfl rfl ?_
      refine x_iload_n (pc := 62) 1 dX8_stands_62 rfl rfl ?_
      obtain ⟨x5, s4, hr, h⟩ := h
      refine x_callV (pc := 63) [(.int l1)] [] dX8_stands_63 ⟨⟨hX5_bestPlace.1, hX5_bestPlace.2.1, hX5_bestPlace.2.2, by decide⟩, mX8_198, vX5_bestPlace.1, vX5_bestPlace.2⟩ (ci := 5) rfl rfl rfl rfl (Nat.le_of_ble_eq_true rfl) hr ?_
      refine x_callS (pc := 66) [(.int x5)] [] dX8_stands_66 ⟨⟨hX8_tellPlace.1, hX8_tellPlace.2.1, hX8_tellPlace.2.2, by decide⟩, mX8_134, sX8_tellPlace⟩ rfl rfl (Nat.le_of_ble_eq_true rfl) (i_X8_tellPlace) ?_
      exact x_ireturn2 (pc := 69) dX8_stands_69 rfl h.1 h.2
    · replace h := h.2 c3
      refine x_aload_n (pc := 48) 0 dX8_stands_48 rfl rfl ?_
      refine x_getR (pc := 49) dX8_stands_49 fX8_52 rfl rfl ?_
      obtain ⟨x7, s6, hr, h⟩ := h
      refine x_callV (pc := 52) [] [] dX8_stands_52 ⟨⟨hX5_fullFields.1, hX5_fullFields.2.1, hX5_fullFields.2.2, by decide⟩, mX8_195, vX5_fullFields.1, vX5_fullFields.2⟩ (ci := 5) rfl rfl rfl rfl (Nat.le_of_ble_eq_true rfl) hr ?_
      refine x_goto (pc := 55) 69 dX8_stands_55 (by decide) ?_
      exact x_ireturn2 (pc := 69) dX8_stands_69 rfl h.1 h.2
  · replace h := h.2 c1
    refine x_bipush (pc := 25) (-2 : Int32) dX8_stands_25 (by decide +kernel) ?_
    exact x_ireturn2 (pc := 27) dX8_stands_27 rfl h.1 h.2
theorem dX8_howls_0 : decode cX8_howls 0 = .ok (.aload_n 0, 1) := by decide +kernel
theorem dX8_howls_1 : decode cX8_howls 1 = .ok (.iload_n 1, 1) := by decide +kernel
theorem dX8_howls_2 : decode cX8_howls 2 = .ok (.invokevirtual 103, 3) := by decide +kernel
theorem dX8_howls_5 : decode cX8_howls 5 = .ok (.ifCond .ne 5, 3) := by decide +kernel
theorem dX8_howls_8 : decode cX8_howls 8 = .ok (.iconst (-1), 1) := by decide +kernel
theorem dX8_howls_9 : decode cX8_howls 9 = .ok (.ireturn, 1) := by decide +kernel
theorem dX8_howls_10 : decode cX8_howls 10 = .ok (.iconst 0, 1) := by decide +kernel
theorem dX8_howls_11 : decode cX8_howls 11 = .ok (.istore_n 2, 1) := by decide +kernel
theorem dX8_howls_12 : decode cX8_howls 12 = .ok (.iconst 0, 1) := by decide +kernel
theorem dX8_howls_13 : decode cX8_howls 13 = .ok (.istore_n 3, 1) := by decide +kernel
theorem dX8_howls_14 : decode cX8_howls 14 = .ok (.iload_n 3, 1) := by decide +kernel
theorem dX8_howls_15 : decode cX8_howls 15 = .ok (.bipush 12, 2) := by decide +kernel
theorem dX8_howls_17 : decode cX8_howls 17 = .ok (.if_icmp .ge 56, 3) := by decide +kernel
theorem dX8_howls_20 : decode cX8_howls 20 = .ok (.aload_n 0, 1) := by decide +kernel
theorem dX8_howls_21 : decode cX8_howls 21 = .ok (.getfield 19, 3) := by decide +kernel
theorem dX8_howls_24 : decode cX8_howls 24 = .ok (.getfield 107, 3) := by decide +kernel
theorem dX8_howls_27 : decode cX8_howls 27 = .ok (.iload_n 1, 1) := by decide +kernel
theorem dX8_howls_28 : decode cX8_howls 28 = .ok (.iaload, 1) := by decide +kernel
theorem dX8_howls_29 : decode cX8_howls 29 = .ok (.iconst 1, 1) := by decide +kernel
theorem dX8_howls_30 : decode cX8_howls 30 = .ok (.iload_n 3, 1) := by decide +kernel
theorem dX8_howls_31 : decode cX8_howls 31 = .ok (.ishl, 1) := by decide +kernel
theorem dX8_howls_32 : decode cX8_howls 32 = .ok (.ior, 1) := by decide +kernel
theorem dX8_howls_33 : decode cX8_howls 33 = .ok (.istore 4, 2) := by decide +kernel
theorem dX8_howls_35 : decode cX8_howls 35 = .ok (.iload 4, 2) := by decide +kernel
theorem dX8_howls_37 : decode cX8_howls 37 = .ok (.aload_n 0, 1) := by decide +kernel
theorem dX8_howls_38 : decode cX8_howls 38 = .ok (.getfield 19, 3) := by decide +kernel
theorem dX8_howls_41 : decode cX8_howls 41 = .ok (.getfield 107, 3) := by decide +kernel
theorem dX8_howls_44 : decode cX8_howls 44 = .ok (.iload_n 1, 1) := by decide +kernel
theorem dX8_howls_45 : decode cX8_howls 45 = .ok (.iaload, 1) := by decide +kernel
theorem dX8_howls_46 : decode cX8_howls 46 = .ok (.if_icmp .eq 21, 3) := by decide +kernel
theorem dX8_howls_49 : decode cX8_howls 49 = .ok (.aload_n 0, 1) := by decide +kernel
theorem dX8_howls_50 : decode cX8_howls 50 = .ok (.getfield 48, 3) := by decide +kernel
theorem dX8_howls_53 : decode cX8_howls 53 = .ok (.iload 4, 2) := by decide +kernel
theorem dX8_howls_55 : decode cX8_howls 55 = .ok (.invokevirtual 201, 3) := by decide +kernel
theorem dX8_howls_58 : decode cX8_howls 58 = .ok (.ifCond .ne 9, 3) := by decide +kernel
theorem dX8_howls_61 : decode cX8_howls 61 = .ok (.iload_n 2, 1) := by decide +kernel
theorem dX8_howls_62 : decode cX8_howls 62 = .ok (.iconst 1, 1) := by decide +kernel
theorem dX8_howls_63 : decode cX8_howls 63 = .ok (.iload_n 3, 1) := by decide +kernel
theorem dX8_howls_64 : decode cX8_howls 64 = .ok (.ishl, 1) := by decide +kernel
theorem dX8_howls_65 : decode cX8_howls 65 = .ok (.ior, 1) := by decide +kernel
theorem dX8_howls_66 : decode cX8_howls 66 = .ok (.istore_n 2, 1) := by decide +kernel
theorem dX8_howls_67 : decode cX8_howls 67 = .ok (.iinc 3 1, 3) := by decide +kernel
theorem dX8_howls_70 : decode cX8_howls 70 = .ok (.goto (-56), 3) := by decide +kernel
theorem dX8_howls_73 : decode cX8_howls 73 = .ok (.iload_n 2, 1) := by decide +kernel
theorem dX8_howls_74 : decode cX8_howls 74 = .ok (.ireturn, 1) := by decide +kernel
def R_X8_howls (a1 : Int32) (σ : kS) (x : Int32) (τ : kS) : Prop := Run SX jX8_howls [(.ref 0), (.int a1)] σ (some (.int x)) τ
def E_X8_howls_14 (l1 : Int32) (l2 : Int32) (l3 : Int32) (σ : kS) (x : Int32) (τ : kS) : Prop := Ex SX jX8_howls 14 [some (.ref 0), some (.int l1), some (.int l2), some (.int l3), none] [] σ (some (.int x)) τ
set_option maxRecDepth 20000 in
theorem t_X8_howls {a1 : Int32} {σ : kS} {x : Int32} {τ : kS}  (h : ((wn a1 (σ.1 3 1)) → E_X8_howls_14 a1 (0 : Int32) (0 : Int32) σ x τ) ∧ (¬ (wn a1 (σ.1 3 1)) → x = (-1 : Int32) ∧ τ = σ)) : R_X8_howls a1 σ x τ := by
  refine x_run [some (.ref 0), some (.int a1), none, none, none] (by decide +kernel) rfl (Nat.le_of_ble_eq_true rfl) ?_
  refine x_aload_n (pc := 0) 0 dX8_howls_0 rfl rfl ?_
  refine x_iload_n (pc := 1) 1 dX8_howls_1 rfl rfl ?_
  refine x_callV (pc := 2) [(.int a1)] [] dX8_howls_2 ⟨⟨hX8_isField.1, hX8_isField.2.1, hX8_isField.2.2, by decide⟩, mX8_103, vX8_isField.1, vX8_isField.2⟩ (ci := 8) rfl rfl rfl rfl (Nat.le_of_ble_eq_true rfl) (i_X8_isField) ?_
  refine x_bif_ne (pc := 5) 10 dX8_howls_5 (by decide) (fun c1 => ?_) (fun c1 => ?_)
  · replace h := h.1 c1
    refine x_iconst (pc := 10) (0 : Int32) dX8_howls_10 (by decide +kernel) ?_
    refine x_istore_n (pc := 11) 2 dX8_howls_11 rfl (by decide) rfl ?_
    refine x_iconst (pc := 12) (0 : Int32) dX8_howls_12 (by decide +kernel) ?_
    refine x_istore_n (pc := 13) 3 dX8_howls_13 rfl (by decide) rfl ?_
    exact h
  · replace h := h.2 c1
    refine x_iconst (pc := 8) (-1 : Int32) dX8_howls_8 (by decide +kernel) ?_
    exact x_ireturn2 (pc := 9) dX8_howls_9 rfl h.1 h.2
set_option maxRecDepth 20000 in
theorem t_X8_howls_14 {l1 : Int32} {l2 : Int32} {l3 : Int32} {σ : kS} {x : Int32} {τ : kS}  (h : ((12 : Int32) ≤ l3 → x = l2 ∧ τ = σ) ∧ (¬ (12 : Int32) ≤ l3 → vp_in l1 5 ∧ (vp_in l1 5 ∧ ((((σ.1 5 l1.toNatClampNeg) ||| ((1 : Int32) <<< (l3 &&& 31))) = (σ.1 5 l1.toNatClampNeg) → E_X8_howls_14 l1 l2 (l3 + (1 : Int32)) σ x τ) ∧ (¬ ((σ.1 5 l1.toNatClampNeg) ||| ((1 : Int32) <<< (l3 &&& 31))) = (σ.1 5 l1.toNatClampNeg) → ∃ (x6 : Int32) (s5 : kS), R_X2_isThere ((σ.1 5 l1.toNatClampNeg) ||| ((1 : Int32) <<< (l3 &&& 31))) σ x6 s5 ∧ ((¬ x6 = 0 → E_X8_howls_14 l1 l2 (l3 + (1 : Int32)) s5 x τ) ∧ (x6 = 0 → E_X8_howls_14 l1 (l2 ||| ((1 : Int32) <<< (l3 &&& 31))) (l3 + (1 : Int32)) s5 x τ))))))) : E_X8_howls_14 l1 l2 l3 σ x τ := by
  unfold E_X8_howls_14
  refine x_iload_n (pc := 14) 3 dX8_howls_14 rfl rfl ?_
  refine x_bipush (pc := 15) (12 : Int32) dX8_howls_15 (by decide +kernel) ?_
  refine x_icmp_ge (pc := 17) 73 dX8_howls_17 (by decide) (fun c1 => ?_) (fun c1 => ?_)
  · replace h := h.1 c1
    refine x_iload_n (pc := 73) 2 dX8_howls_73 rfl rfl ?_
    exact x_ireturn2 (pc := 74) dX8_howls_74 rfl h.1 h.2
  · replace h := h.2 c1
    refine x_aload_n (pc := 20) 0 dX8_howls_20 rfl rfl ?_
    refine x_getR (pc := 21) dX8_howls_21 fX8_19 rfl rfl ?_
    refine x_getR (pc := 24) dX8_howls_24 fX8_107 rfl rfl ?_
    refine x_iload_n (pc := 27) 1 dX8_howls_27 rfl rfl ?_
    obtain ⟨g2, h⟩ := h
    refine x_iaload (pc := 28) (n := 5) dX8_howls_28 rfl g2 ?_
    refine x_iconst (pc := 29) (1 : Int32) dX8_howls_29 (by decide +kernel) ?_
    refine x_iload_n (pc := 30) 3 dX8_howls_30 rfl rfl ?_
    refine x_ishl (pc := 31) dX8_howls_31 ?_
    refine x_ior (pc := 32) dX8_howls_32 ?_
    refine x_istore (pc := 33) dX8_howls_33 (by decide) rfl ?_
    refine x_iload (pc := 35) dX8_howls_35 rfl ?_
    refine x_aload_n (pc := 37) 0 dX8_howls_37 rfl rfl ?_
    refine x_getR (pc := 38) dX8_howls_38 fX8_19 rfl rfl ?_
    refine x_getR (pc := 41) dX8_howls_41 fX8_107 rfl rfl ?_
    refine x_iload_n (pc := 44) 1 dX8_howls_44 rfl rfl ?_
    obtain ⟨g3, h⟩ := h
    refine x_iaload (pc := 45) (n := 5) dX8_howls_45 rfl g3 ?_
    refine x_icmp_eq (pc := 46) 67 dX8_howls_46 (by decide) (fun c4 => ?_) (fun c4 => ?_)
    · replace h := h.1 c4
      refine x_iinc (pc := 67) (1 : Int32) dX8_howls_67 (by decide) rfl rfl (by decide +kernel) ?_
      refine x_goto (pc := 70) 14 dX8_howls_70 (by decide) ?_
      exact x_mask [true, true, true, true, false] h
    · replace h := h.2 c4
      refine x_aload_n (pc := 49) 0 dX8_howls_49 rfl rfl ?_
      refine x_getR (pc := 50) dX8_howls_50 fX8_48 rfl rfl ?_
      refine x_iload (pc := 53) dX8_howls_53 rfl ?_
      obtain ⟨x6, s5, hr, h⟩ := h
      refine x_callV (pc := 55) [(.int ((σ.1 5 l1.toNatClampNeg) ||| ((1 : Int32) <<< (l3 &&& 31))))] [] dX8_howls_55 ⟨⟨hX2_isThere.1, hX2_isThere.2.1, hX2_isThere.2.2, by decide⟩, mX8_201, vX2_isThere.1, vX2_isThere.2⟩ (ci := 2) rfl rfl rfl rfl (Nat.le_of_ble_eq_true rfl) hr ?_
      refine x_if_ne (pc := 58) 67 dX8_howls_58 (by decide) (fun c7 => ?_) (fun c7 => ?_)
      · replace h := h.1 c7
        refine x_iinc (pc := 67) (1 : Int32) dX8_howls_67 (by decide) rfl rfl (by decide +kernel) ?_
        refine x_goto (pc := 70) 14 dX8_howls_70 (by decide) ?_
        exact x_mask [true, true, true, true, false] h
      · replace h := h.2 c7
        refine x_iload_n (pc := 61) 2 dX8_howls_61 rfl rfl ?_
        refine x_iconst (pc := 62) (1 : Int32) dX8_howls_62 (by decide +kernel) ?_
        refine x_iload_n (pc := 63) 3 dX8_howls_63 rfl rfl ?_
        refine x_ishl (pc := 64) dX8_howls_64 ?_
        refine x_ior (pc := 65) dX8_howls_65 ?_
        refine x_istore_n (pc := 66) 2 dX8_howls_66 rfl (by decide) rfl ?_
        refine x_iinc (pc := 67) (1 : Int32) dX8_howls_67 (by decide) rfl rfl (by decide +kernel) ?_
        refine x_goto (pc := 70) 14 dX8_howls_70 (by decide) ?_
        exact x_mask [true, true, true, true, false] h
theorem dX8_back_0 : decode cX8_back 0 = .ok (.aload_n 0, 1) := by decide +kernel
theorem dX8_back_1 : decode cX8_back 1 = .ok (.iload_n 1, 1) := by decide +kernel
theorem dX8_back_2 : decode cX8_back 2 = .ok (.invokevirtual 103, 3) := by decide +kernel
theorem dX8_back_5 : decode cX8_back 5 = .ok (.ifCond .ne 5, 3) := by decide +kernel
theorem dX8_back_8 : decode cX8_back 8 = .ok (.iconst (-1), 1) := by decide +kernel
theorem dX8_back_9 : decode cX8_back 9 = .ok (.ireturn, 1) := by decide +kernel
theorem dX8_back_10 : decode cX8_back 10 = .ok (.aload_n 0, 1) := by decide +kernel
theorem dX8_back_11 : decode cX8_back 11 = .ok (.getfield 19, 3) := by decide +kernel
theorem dX8_back_14 : decode cX8_back 14 = .ok (.getfield 107, 3) := by decide +kernel
theorem dX8_back_17 : decode cX8_back 17 = .ok (.iload_n 1, 1) := by decide +kernel
theorem dX8_back_18 : decode cX8_back 18 = .ok (.iaload, 1) := by decide +kernel
theorem dX8_back_19 : decode cX8_back 19 = .ok (.istore_n 2, 1) := by decide +kernel
theorem dX8_back_20 : decode cX8_back 20 = .ok (.iload_n 2, 1) := by decide +kernel
theorem dX8_back_21 : decode cX8_back 21 = .ok (.ifCond .ne 6, 3) := by decide +kernel
theorem dX8_back_24 : decode cX8_back 24 = .ok (.bipush (-2), 2) := by decide +kernel
theorem dX8_back_26 : decode cX8_back 26 = .ok (.ireturn, 1) := by decide +kernel
theorem dX8_back_27 : decode cX8_back 27 = .ok (.bipush (-4), 2) := by decide +kernel
theorem dX8_back_29 : decode cX8_back 29 = .ok (.istore_n 3, 1) := by decide +kernel
theorem dX8_back_30 : decode cX8_back 30 = .ok (.iconst 4, 1) := by decide +kernel
theorem dX8_back_31 : decode cX8_back 31 = .ok (.istore 4, 2) := by decide +kernel
theorem dX8_back_33 : decode cX8_back 33 = .ok (.iconst 0, 1) := by decide +kernel
theorem dX8_back_34 : decode cX8_back 34 = .ok (.istore 5, 2) := by decide +kernel
theorem dX8_back_36 : decode cX8_back 36 = .ok (.iload 5, 2) := by decide +kernel
theorem dX8_back_38 : decode cX8_back 38 = .ok (.iload_n 2, 1) := by decide +kernel
theorem dX8_back_39 : decode cX8_back 39 = .ok (.if_icmp .gt 66, 3) := by decide +kernel
theorem dX8_back_42 : decode cX8_back 42 = .ok (.iload 5, 2) := by decide +kernel
theorem dX8_back_44 : decode cX8_back 44 = .ok (.iload_n 2, 1) := by decide +kernel
theorem dX8_back_45 : decode cX8_back 45 = .ok (.iconst (-1), 1) := by decide +kernel
theorem dX8_back_46 : decode cX8_back 46 = .ok (.ixor, 1) := by decide +kernel
theorem dX8_back_47 : decode cX8_back 47 = .ok (.iand, 1) := by decide +kernel
theorem dX8_back_48 : decode cX8_back 48 = .ok (.ifCond .ne 17, 3) := by decide +kernel
theorem dX8_back_51 : decode cX8_back 51 = .ok (.iload 5, 2) := by decide +kernel
theorem dX8_back_53 : decode cX8_back 53 = .ok (.invokestatic 182, 3) := by decide +kernel
theorem dX8_back_56 : decode cX8_back 56 = .ok (.iload 4, 2) := by decide +kernel
theorem dX8_back_58 : decode cX8_back 58 = .ok (.if_icmp .ge 7, 3) := by decide +kernel
theorem dX8_back_61 : decode cX8_back 61 = .ok (.iconst 1, 1) := by decide +kernel
theorem dX8_back_62 : decode cX8_back 62 = .ok (.goto 4, 3) := by decide +kernel
theorem dX8_back_65 : decode cX8_back 65 = .ok (.iconst 0, 1) := by decide +kernel
theorem dX8_back_66 : decode cX8_back 66 = .ok (.istore 6, 2) := by decide +kernel
theorem dX8_back_68 : decode cX8_back 68 = .ok (.iload 6, 2) := by decide +kernel
theorem dX8_back_70 : decode cX8_back 70 = .ok (.ifCond .eq 29, 3) := by decide +kernel
theorem dX8_back_73 : decode cX8_back 73 = .ok (.aload_n 0, 1) := by decide +kernel
theorem dX8_back_74 : decode cX8_back 74 = .ok (.getfield 48, 3) := by decide +kernel
theorem dX8_back_77 : decode cX8_back 77 = .ok (.iload_n 2, 1) := by decide +kernel
theorem dX8_back_78 : decode cX8_back 78 = .ok (.iload 5, 2) := by decide +kernel
theorem dX8_back_80 : decode cX8_back 80 = .ok (.iconst (-1), 1) := by decide +kernel
theorem dX8_back_81 : decode cX8_back 81 = .ok (.ixor, 1) := by decide +kernel
theorem dX8_back_82 : decode cX8_back 82 = .ok (.iand, 1) := by decide +kernel
theorem dX8_back_83 : decode cX8_back 83 = .ok (.invokevirtual 201, 3) := by decide +kernel
theorem dX8_back_86 : decode cX8_back 86 = .ok (.ifCond .eq 13, 3) := by decide +kernel
theorem dX8_back_89 : decode cX8_back 89 = .ok (.iload 5, 2) := by decide +kernel
theorem dX8_back_91 : decode cX8_back 91 = .ok (.istore_n 3, 1) := by decide +kernel
theorem dX8_back_92 : decode cX8_back 92 = .ok (.iload 5, 2) := by decide +kernel
theorem dX8_back_94 : decode cX8_back 94 = .ok (.invokestatic 182, 3) := by decide +kernel
theorem dX8_back_97 : decode cX8_back 97 = .ok (.istore 4, 2) := by decide +kernel
theorem dX8_back_99 : decode cX8_back 99 = .ok (.iinc 5 1, 3) := by decide +kernel
theorem dX8_back_102 : decode cX8_back 102 = .ok (.goto (-66), 3) := by decide +kernel
theorem dX8_back_105 : decode cX8_back 105 = .ok (.iload_n 3, 1) := by decide +kernel
theorem dX8_back_106 : decode cX8_back 106 = .ok (.ireturn, 1) := by decide +kernel
def R_X8_back (a1 : Int32) (σ : kS) (x : Int32) (τ : kS) : Prop := Run SX jX8_back [(.ref 0), (.int a1)] σ (some (.int x)) τ
def E_X8_back_36 (l2 : Int32) (l3 : Int32) (l4 : Int32) (l5 : Int32) (σ : kS) (x : Int32) (τ : kS) : Prop := Ex SX jX8_back 36 [some (.ref 0), none, some (.int l2), some (.int l3), some (.int l4), some (.int l5), none] [] σ (some (.int x)) τ
def E_X8_back_66 (l2 : Int32) (l3 : Int32) (l4 : Int32) (l5 : Int32) (y0 : Int32) (σ : kS) (x : Int32) (τ : kS) : Prop := Ex SX jX8_back 66 [some (.ref 0), none, some (.int l2), some (.int l3), some (.int l4), some (.int l5), none] [(.int y0)] σ (some (.int x)) τ
set_option maxRecDepth 20000 in
theorem t_X8_back {a1 : Int32} {σ : kS} {x : Int32} {τ : kS}  (h : ((wn a1 (σ.1 3 1)) → vp_in a1 5 ∧ ((¬ (σ.1 5 a1.toNatClampNeg) = 0 → E_X8_back_36 (σ.1 5 a1.toNatClampNeg) (-4 : Int32) (4 : Int32) (0 : Int32) σ x τ) ∧ ((σ.1 5 a1.toNatClampNeg) = 0 → x = (-2 : Int32) ∧ τ = σ))) ∧ (¬ (wn a1 (σ.1 3 1)) → x = (-1 : Int32) ∧ τ = σ)) : R_X8_back a1 σ x τ := by
  refine x_run [some (.ref 0), some (.int a1), none, none, none, none, none] (by decide +kernel) rfl (Nat.le_of_ble_eq_true rfl) ?_
  refine x_aload_n (pc := 0) 0 dX8_back_0 rfl rfl ?_
  refine x_iload_n (pc := 1) 1 dX8_back_1 rfl rfl ?_
  refine x_callV (pc := 2) [(.int a1)] [] dX8_back_2 ⟨⟨hX8_isField.1, hX8_isField.2.1, hX8_isField.2.2, by decide⟩, mX8_103, vX8_isField.1, vX8_isField.2⟩ (ci := 8) rfl rfl rfl rfl (Nat.le_of_ble_eq_true rfl) (i_X8_isField) ?_
  refine x_bif_ne (pc := 5) 10 dX8_back_5 (by decide) (fun c1 => ?_) (fun c1 => ?_)
  · replace h := h.1 c1
    refine x_aload_n (pc := 10) 0 dX8_back_10 rfl rfl ?_
    refine x_getR (pc := 11) dX8_back_11 fX8_19 rfl rfl ?_
    refine x_getR (pc := 14) dX8_back_14 fX8_107 rfl rfl ?_
    refine x_iload_n (pc := 17) 1 dX8_back_17 rfl rfl ?_
    obtain ⟨g2, h⟩ := h
    refine x_iaload (pc := 18) (n := 5) dX8_back_18 rfl g2 ?_
    refine x_istore_n (pc := 19) 2 dX8_back_19 rfl (by decide) rfl ?_
    refine x_iload_n (pc := 20) 2 dX8_back_20 rfl rfl ?_
    refine x_if_ne (pc := 21) 27 dX8_back_21 (by decide) (fun c3 => ?_) (fun c3 => ?_)
    · replace h := h.1 c3
      refine x_bipush (pc := 27) (-4 : Int32) dX8_back_27 (by decide +kernel) ?_
      refine x_istore_n (pc := 29) 3 dX8_back_29 rfl (by decide) rfl ?_
      refine x_iconst (pc := 30) (4 : Int32) dX8_back_30 (by decide +kernel) ?_
      refine x_istore (pc := 31) dX8_back_31 (by decide) rfl ?_
      refine x_iconst (pc := 33) (0 : Int32) dX8_back_33 (by decide +kernel) ?_
      refine x_istore (pc := 34) dX8_back_34 (by decide) rfl ?_
      exact x_mask [true, false, true, true, true, true, false] h
    · replace h := h.2 c3
      refine x_bipush (pc := 24) (-2 : Int32) dX8_back_24 (by decide +kernel) ?_
      exact x_ireturn2 (pc := 26) dX8_back_26 rfl h.1 h.2
  · replace h := h.2 c1
    refine x_iconst (pc := 8) (-1 : Int32) dX8_back_8 (by decide +kernel) ?_
    exact x_ireturn2 (pc := 9) dX8_back_9 rfl h.1 h.2
set_option maxRecDepth 20000 in
theorem t_X8_back_36 {l2 : Int32} {l3 : Int32} {l4 : Int32} {l5 : Int32} {σ : kS} {x : Int32} {τ : kS}  (h : (l2 < l5 → x = l3 ∧ τ = σ) ∧ (¬ l2 < l5 → (¬ (l5 &&& (l2 ^^^ (-1 : Int32))) = 0 → E_X8_back_66 l2 l3 l4 l5 (0 : Int32) σ x τ) ∧ ((l5 &&& (l2 ^^^ (-1 : Int32))) = 0 → ∃ (x4 : Int32) (s3 : kS), R_J6_bitCount_0f7a4 l5 σ x4 s3 ∧ ((l4 ≤ x4 → E_X8_back_66 l2 l3 l4 l5 (0 : Int32) s3 x τ) ∧ (¬ l4 ≤ x4 → E_X8_back_66 l2 l3 l4 l5 (1 : Int32) s3 x τ))))) : E_X8_back_36 l2 l3 l4 l5 σ x τ := by
  unfold E_X8_back_36
  refine x_iload (pc := 36) dX8_back_36 rfl ?_
  refine x_iload_n (pc := 38) 2 dX8_back_38 rfl rfl ?_
  refine x_icmp_gt (pc := 39) 105 dX8_back_39 (by decide) (fun c1 => ?_) (fun c1 => ?_)
  · replace h := h.1 c1
    refine x_iload_n (pc := 105) 3 dX8_back_105 rfl rfl ?_
    exact x_ireturn2 (pc := 106) dX8_back_106 rfl h.1 h.2
  · replace h := h.2 c1
    refine x_iload (pc := 42) dX8_back_42 rfl ?_
    refine x_iload_n (pc := 44) 2 dX8_back_44 rfl rfl ?_
    refine x_iconst (pc := 45) (-1 : Int32) dX8_back_45 (by decide +kernel) ?_
    refine x_ixor (pc := 46) dX8_back_46 ?_
    refine x_iand (pc := 47) dX8_back_47 ?_
    refine x_if_ne (pc := 48) 65 dX8_back_48 (by decide) (fun c2 => ?_) (fun c2 => ?_)
    · replace h := h.1 c2
      refine x_iconst (pc := 65) (0 : Int32) dX8_back_65 (by decide +kernel) ?_
      exact h
    · replace h := h.2 c2
      refine x_iload (pc := 51) dX8_back_51 rfl ?_
      obtain ⟨x4, s3, hr, h⟩ := h
      refine x_callS (pc := 53) [(.int l5)] [] dX8_back_53 ⟨⟨hJ6_bitCount_0f7a4.1, hJ6_bitCount_0f7a4.2.1, hJ6_bitCount_0f7a4.2.2, by decide⟩, mX8_182, sJ6_bitCount_0f7a4⟩ rfl rfl (Nat.le_of_ble_eq_true rfl) hr ?_
      refine x_iload (pc := 56) dX8_back_56 rfl ?_
      refine x_icmp_ge (pc := 58) 65 dX8_back_58 (by decide) (fun c5 => ?_) (fun c5 => ?_)
      · replace h := h.1 c5
        refine x_iconst (pc := 65) (0 : Int32) dX8_back_65 (by decide +kernel) ?_
        exact h
      · replace h := h.2 c5
        refine x_iconst (pc := 61) (1 : Int32) dX8_back_61 (by decide +kernel) ?_
        refine x_goto (pc := 62) 66 dX8_back_62 (by decide) ?_
        exact h
set_option maxRecDepth 20000 in
theorem t_X8_back_66 {l2 : Int32} {l3 : Int32} {l4 : Int32} {l5 : Int32} {y0 : Int32} {σ : kS} {x : Int32} {τ : kS}  (h : (y0 = 0 → E_X8_back_36 l2 l3 l4 (l5 + (1 : Int32)) σ x τ) ∧ (¬ y0 = 0 → ∃ (x3 : Int32) (s2 : kS), R_X2_isThere (l2 &&& (l5 ^^^ (-1 : Int32))) σ x3 s2 ∧ ((x3 = 0 → E_X8_back_36 l2 l3 l4 (l5 + (1 : Int32)) s2 x τ) ∧ (¬ x3 = 0 → ∃ (x6 : Int32) (s5 : kS), R_J6_bitCount_0f7a4 l5 s2 x6 s5 ∧ (E_X8_back_36 l2 l5 x6 (l5 + (1 : Int32)) s5 x τ))))) : E_X8_back_66 l2 l3 l4 l5 y0 σ x τ := by
  unfold E_X8_back_66
  refine x_istore (pc := 66) dX8_back_66 (by decide) rfl ?_
  refine x_iload (pc := 68) dX8_back_68 rfl ?_
  refine x_if_eq (pc := 70) 99 dX8_back_70 (by decide) (fun c1 => ?_) (fun c1 => ?_)
  · replace h := h.1 c1
    refine x_iinc (pc := 99) (1 : Int32) dX8_back_99 (by decide) rfl rfl (by decide +kernel) ?_
    refine x_goto (pc := 102) 36 dX8_back_102 (by decide) ?_
    exact x_mask [true, false, true, true, true, true, false] h
  · replace h := h.2 c1
    refine x_aload_n (pc := 73) 0 dX8_back_73 rfl rfl ?_
    refine x_getR (pc := 74) dX8_back_74 fX8_48 rfl rfl ?_
    refine x_iload_n (pc := 77) 2 dX8_back_77 rfl rfl ?_
    refine x_iload (pc := 78) dX8_back_78 rfl ?_
    refine x_iconst (pc := 80) (-1 : Int32) dX8_back_80 (by decide +kernel) ?_
    refine x_ixor (pc := 81) dX8_back_81 ?_
    refine x_iand (pc := 82) dX8_back_82 ?_
    obtain ⟨x3, s2, hr, h⟩ := h
    refine x_callV (pc := 83) [(.int (l2 &&& (l5 ^^^ (-1 : Int32))))] [] dX8_back_83 ⟨⟨hX2_isThere.1, hX2_isThere.2.1, hX2_isThere.2.2, by decide⟩, mX8_201, vX2_isThere.1, vX2_isThere.2⟩ (ci := 2) rfl rfl rfl rfl (Nat.le_of_ble_eq_true rfl) hr ?_
    refine x_if_eq (pc := 86) 99 dX8_back_86 (by decide) (fun c4 => ?_) (fun c4 => ?_)
    · replace h := h.1 c4
      refine x_iinc (pc := 99) (1 : Int32) dX8_back_99 (by decide) rfl rfl (by decide +kernel) ?_
      refine x_goto (pc := 102) 36 dX8_back_102 (by decide) ?_
      exact x_mask [true, false, true, true, true, true, false] h
    · replace h := h.2 c4
      refine x_iload (pc := 89) dX8_back_89 rfl ?_
      refine x_istore_n (pc := 91) 3 dX8_back_91 rfl (by decide) rfl ?_
      refine x_iload (pc := 92) dX8_back_92 rfl ?_
      obtain ⟨x6, s5, hr, h⟩ := h
      refine x_callS (pc := 94) [(.int l5)] [] dX8_back_94 ⟨⟨hJ6_bitCount_0f7a4.1, hJ6_bitCount_0f7a4.2.1, hJ6_bitCount_0f7a4.2.2, by decide⟩, mX8_182, sJ6_bitCount_0f7a4⟩ rfl rfl (Nat.le_of_ble_eq_true rfl) hr ?_
      refine x_istore (pc := 97) dX8_back_97 (by decide) rfl ?_
      refine x_iinc (pc := 99) (1 : Int32) dX8_back_99 (by decide) rfl rfl (by decide +kernel) ?_
      refine x_goto (pc := 102) 36 dX8_back_102 (by decide) ?_
      exact x_mask [true, false, true, true, true, true, false] h
theorem dX8_sharedDivisor_0 : decode cX8_sharedDivisor 0 = .ok (.iload_n 0, 1) := by decide +kernel
theorem dX8_sharedDivisor_1 : decode cX8_sharedDivisor 1 = .ok (.istore_n 2, 1) := by decide +kernel
theorem dX8_sharedDivisor_2 : decode cX8_sharedDivisor 2 = .ok (.iload_n 1, 1) := by decide +kernel
theorem dX8_sharedDivisor_3 : decode cX8_sharedDivisor 3 = .ok (.istore_n 3, 1) := by decide +kernel
theorem dX8_sharedDivisor_4 : decode cX8_sharedDivisor 4 = .ok (.iconst 0, 1) := by decide +kernel
theorem dX8_sharedDivisor_5 : decode cX8_sharedDivisor 5 = .ok (.istore 4, 2) := by decide +kernel
theorem dX8_sharedDivisor_7 : decode cX8_sharedDivisor 7 = .ok (.iload 4, 2) := by decide +kernel
theorem dX8_sharedDivisor_9 : decode cX8_sharedDivisor 9 = .ok (.bipush 64, 2) := by decide +kernel
theorem dX8_sharedDivisor_11 : decode cX8_sharedDivisor 11 = .ok (.if_icmp .ge 23, 3) := by decide +kernel
theorem dX8_sharedDivisor_14 : decode cX8_sharedDivisor 14 = .ok (.iload_n 3, 1) := by decide +kernel
theorem dX8_sharedDivisor_15 : decode cX8_sharedDivisor 15 = .ok (.ifCond .eq 19, 3) := by decide +kernel
theorem dX8_sharedDivisor_18 : decode cX8_sharedDivisor 18 = .ok (.iload_n 2, 1) := by decide +kernel
theorem dX8_sharedDivisor_19 : decode cX8_sharedDivisor 19 = .ok (.iload_n 3, 1) := by decide +kernel
theorem dX8_sharedDivisor_20 : decode cX8_sharedDivisor 20 = .ok (.irem, 1) := by decide +kernel
theorem dX8_sharedDivisor_21 : decode cX8_sharedDivisor 21 = .ok (.istore 5, 2) := by decide +kernel
theorem dX8_sharedDivisor_23 : decode cX8_sharedDivisor 23 = .ok (.iload_n 3, 1) := by decide +kernel
theorem dX8_sharedDivisor_24 : decode cX8_sharedDivisor 24 = .ok (.istore_n 2, 1) := by decide +kernel
theorem dX8_sharedDivisor_25 : decode cX8_sharedDivisor 25 = .ok (.iload 5, 2) := by decide +kernel
theorem dX8_sharedDivisor_27 : decode cX8_sharedDivisor 27 = .ok (.istore_n 3, 1) := by decide +kernel
theorem dX8_sharedDivisor_28 : decode cX8_sharedDivisor 28 = .ok (.iinc 4 1, 3) := by decide +kernel
theorem dX8_sharedDivisor_31 : decode cX8_sharedDivisor 31 = .ok (.goto (-24), 3) := by decide +kernel
theorem dX8_sharedDivisor_34 : decode cX8_sharedDivisor 34 = .ok (.iconst 1, 1) := by decide +kernel
theorem dX8_sharedDivisor_35 : decode cX8_sharedDivisor 35 = .ok (.iload_n 2, 1) := by decide +kernel
theorem dX8_sharedDivisor_36 : decode cX8_sharedDivisor 36 = .ok (.invokestatic 299, 3) := by decide +kernel
theorem dX8_sharedDivisor_39 : decode cX8_sharedDivisor 39 = .ok (.ireturn, 1) := by decide +kernel
def R_X8_sharedDivisor (a0 : Int32) (a1 : Int32) (σ : kS) (x : Int32) (τ : kS) : Prop := Run SX jX8_sharedDivisor [(.int a0), (.int a1)] σ (some (.int x)) τ
def E_X8_sharedDivisor_7 (l2 : Int32) (l3 : Int32) (l4 : Int32) (σ : kS) (x : Int32) (τ : kS) : Prop := Ex SX jX8_sharedDivisor 7 [none, none, some (.int l2), some (.int l3), some (.int l4), none] [] σ (some (.int x)) τ
set_option maxRecDepth 20000 in
theorem t_X8_sharedDivisor {a0 : Int32} {a1 : Int32} {σ : kS} {x : Int32} {τ : kS}  (h : E_X8_sharedDivisor_7 a0 a1 (0 : Int32) σ x τ) : R_X8_sharedDivisor a0 a1 σ x τ := by
  refine x_run [some (.int a0), some (.int a1), none, none, none, none] (by decide +kernel) rfl (Nat.le_of_ble_eq_true rfl) ?_
  refine x_iload_n (pc := 0) 0 dX8_sharedDivisor_0 rfl rfl ?_
  refine x_istore_n (pc := 1) 2 dX8_sharedDivisor_1 rfl (by decide) rfl ?_
  refine x_iload_n (pc := 2) 1 dX8_sharedDivisor_2 rfl rfl ?_
  refine x_istore_n (pc := 3) 3 dX8_sharedDivisor_3 rfl (by decide) rfl ?_
  refine x_iconst (pc := 4) (0 : Int32) dX8_sharedDivisor_4 (by decide +kernel) ?_
  refine x_istore (pc := 5) dX8_sharedDivisor_5 (by decide) rfl ?_
  exact x_mask [false, false, true, true, true, false] h
set_option maxRecDepth 20000 in
theorem t_X8_sharedDivisor_7 {l2 : Int32} {l3 : Int32} {l4 : Int32} {σ : kS} {x : Int32} {τ : kS}  (h : ((64 : Int32) ≤ l4 → x = (mx (1 : Int32) l2) ∧ τ = σ) ∧ (¬ (64 : Int32) ≤ l4 → (l3 = 0 → x = (mx (1 : Int32) l2) ∧ τ = σ) ∧ (¬ l3 = 0 → ¬ l3 = 0 ∧ (E_X8_sharedDivisor_7 l3 (l2 - l2 / l3 * l3) (l4 + (1 : Int32)) σ x τ)))) : E_X8_sharedDivisor_7 l2 l3 l4 σ x τ := by
  unfold E_X8_sharedDivisor_7
  refine x_iload (pc := 7) dX8_sharedDivisor_7 rfl ?_
  refine x_bipush (pc := 9) (64 : Int32) dX8_sharedDivisor_9 (by decide +kernel) ?_
  refine x_icmp_ge (pc := 11) 34 dX8_sharedDivisor_11 (by decide) (fun c1 => ?_) (fun c1 => ?_)
  · replace h := h.1 c1
    refine x_iconst (pc := 34) (1 : Int32) dX8_sharedDivisor_34 (by decide +kernel) ?_
    refine x_iload_n (pc := 35) 2 dX8_sharedDivisor_35 rfl rfl ?_
    refine x_callS (pc := 36) [(.int (1 : Int32)), (.int l2)] [] dX8_sharedDivisor_36 ⟨⟨hJ9_max_7cf53.1, hJ9_max_7cf53.2.1, hJ9_max_7cf53.2.2, by decide⟩, mX8_299, sJ9_max_7cf53⟩ rfl rfl (Nat.le_of_ble_eq_true rfl) (i_max) ?_
    exact x_ireturn2 (pc := 39) dX8_sharedDivisor_39 rfl h.1 h.2
  · replace h := h.2 c1
    refine x_iload_n (pc := 14) 3 dX8_sharedDivisor_14 rfl rfl ?_
    refine x_if_eq (pc := 15) 34 dX8_sharedDivisor_15 (by decide) (fun c2 => ?_) (fun c2 => ?_)
    · replace h := h.1 c2
      refine x_iconst (pc := 34) (1 : Int32) dX8_sharedDivisor_34 (by decide +kernel) ?_
      refine x_iload_n (pc := 35) 2 dX8_sharedDivisor_35 rfl rfl ?_
      refine x_callS (pc := 36) [(.int (1 : Int32)), (.int l2)] [] dX8_sharedDivisor_36 ⟨⟨hJ9_max_7cf53.1, hJ9_max_7cf53.2.1, hJ9_max_7cf53.2.2, by decide⟩, mX8_299, sJ9_max_7cf53⟩ rfl rfl (Nat.le_of_ble_eq_true rfl) (i_max) ?_
      exact x_ireturn2 (pc := 39) dX8_sharedDivisor_39 rfl h.1 h.2
    · replace h := h.2 c2
      refine x_iload_n (pc := 18) 2 dX8_sharedDivisor_18 rfl rfl ?_
      refine x_iload_n (pc := 19) 3 dX8_sharedDivisor_19 rfl rfl ?_
      obtain ⟨g3, h⟩ := h
      refine x_irem (pc := 20) dX8_sharedDivisor_20 g3 ?_
      refine x_istore (pc := 21) dX8_sharedDivisor_21 (by decide) rfl ?_
      refine x_iload_n (pc := 23) 3 dX8_sharedDivisor_23 rfl rfl ?_
      refine x_istore_n (pc := 24) 2 dX8_sharedDivisor_24 rfl (by decide) rfl ?_
      refine x_iload (pc := 25) dX8_sharedDivisor_25 rfl ?_
      refine x_istore_n (pc := 27) 3 dX8_sharedDivisor_27 rfl (by decide) rfl ?_
      refine x_iinc (pc := 28) (1 : Int32) dX8_sharedDivisor_28 (by decide) rfl rfl (by decide +kernel) ?_
      refine x_goto (pc := 31) 7 dX8_sharedDivisor_31 (by decide) ?_
      exact x_mask [false, false, true, true, true, false] h
theorem dX8_wind_0 : decode cX8_wind 0 = .ok (.aload_n 0, 1) := by decide +kernel
theorem dX8_wind_1 : decode cX8_wind 1 = .ok (.iload_n 1, 1) := by decide +kernel
theorem dX8_wind_2 : decode cX8_wind 2 = .ok (.invokevirtual 103, 3) := by decide +kernel
theorem dX8_wind_5 : decode cX8_wind 5 = .ok (.ifCond .eq 20, 3) := by decide +kernel
theorem dX8_wind_8 : decode cX8_wind 8 = .ok (.iload_n 2, 1) := by decide +kernel
theorem dX8_wind_9 : decode cX8_wind 9 = .ok (.bipush 11, 2) := by decide +kernel
theorem dX8_wind_11 : decode cX8_wind 11 = .ok (.invokestatic 70, 3) := by decide +kernel
theorem dX8_wind_14 : decode cX8_wind 14 = .ok (.ifCond .eq 11, 3) := by decide +kernel
theorem dX8_wind_17 : decode cX8_wind 17 = .ok (.iload_n 3, 1) := by decide +kernel
theorem dX8_wind_18 : decode cX8_wind 18 = .ok (.iconst 2, 1) := by decide +kernel
theorem dX8_wind_19 : decode cX8_wind 19 = .ok (.invokestatic 70, 3) := by decide +kernel
theorem dX8_wind_22 : decode cX8_wind 22 = .ok (.ifCond .ne 5, 3) := by decide +kernel
theorem dX8_wind_25 : decode cX8_wind 25 = .ok (.iconst (-1), 1) := by decide +kernel
theorem dX8_wind_26 : decode cX8_wind 26 = .ok (.ireturn, 1) := by decide +kernel
theorem dX8_wind_27 : decode cX8_wind 27 = .ok (.aload_n 0, 1) := by decide +kernel
theorem dX8_wind_28 : decode cX8_wind 28 = .ok (.getfield 19, 3) := by decide +kernel
theorem dX8_wind_31 : decode cX8_wind 31 = .ok (.iload_n 1, 1) := by decide +kernel
theorem dX8_wind_32 : decode cX8_wind 32 = .ok (.invokevirtual 110, 3) := by decide +kernel
theorem dX8_wind_35 : decode cX8_wind 35 = .ok (.aload_n 0, 1) := by decide +kernel
theorem dX8_wind_36 : decode cX8_wind 36 = .ok (.getfield 19, 3) := by decide +kernel
theorem dX8_wind_39 : decode cX8_wind 39 = .ok (.invokevirtual 205, 3) := by decide +kernel
theorem dX8_wind_42 : decode cX8_wind 42 = .ok (.iand, 1) := by decide +kernel
theorem dX8_wind_43 : decode cX8_wind 43 = .ok (.istore 4, 2) := by decide +kernel
theorem dX8_wind_45 : decode cX8_wind 45 = .ok (.iconst 0, 1) := by decide +kernel
theorem dX8_wind_46 : decode cX8_wind 46 = .ok (.istore 5, 2) := by decide +kernel
theorem dX8_wind_48 : decode cX8_wind 48 = .ok (.iconst 0, 1) := by decide +kernel
theorem dX8_wind_49 : decode cX8_wind 49 = .ok (.istore 6, 2) := by decide +kernel
theorem dX8_wind_51 : decode cX8_wind 51 = .ok (.iload 6, 2) := by decide +kernel
theorem dX8_wind_53 : decode cX8_wind 53 = .ok (.bipush 32, 2) := by decide +kernel
theorem dX8_wind_55 : decode cX8_wind 55 = .ok (.if_icmp .ge 68, 3) := by decide +kernel
theorem dX8_wind_58 : decode cX8_wind 58 = .ok (.iload 6, 2) := by decide +kernel
theorem dX8_wind_60 : decode cX8_wind 60 = .ok (.iload 4, 2) := by decide +kernel
theorem dX8_wind_62 : decode cX8_wind 62 = .ok (.iconst (-1), 1) := by decide +kernel
theorem dX8_wind_63 : decode cX8_wind 63 = .ok (.ixor, 1) := by decide +kernel
theorem dX8_wind_64 : decode cX8_wind 64 = .ok (.iand, 1) := by decide +kernel
theorem dX8_wind_65 : decode cX8_wind 65 = .ok (.ifCond .ne 52, 3) := by decide +kernel
theorem dX8_wind_68 : decode cX8_wind 68 = .ok (.aload_n 0, 1) := by decide +kernel
theorem dX8_wind_69 : decode cX8_wind 69 = .ok (.getfield 40, 3) := by decide +kernel
theorem dX8_wind_72 : decode cX8_wind 72 = .ok (.aload_n 0, 1) := by decide +kernel
theorem dX8_wind_73 : decode cX8_wind 73 = .ok (.getfield 19, 3) := by decide +kernel
theorem dX8_wind_76 : decode cX8_wind 76 = .ok (.iload_n 1, 1) := by decide +kernel
theorem dX8_wind_77 : decode cX8_wind 77 = .ok (.iload 6, 2) := by decide +kernel
theorem dX8_wind_79 : decode cX8_wind 79 = .ok (.invokevirtual 187, 3) := by decide +kernel
theorem dX8_wind_82 : decode cX8_wind 82 = .ok (.ifCond .eq 35, 3) := by decide +kernel
theorem dX8_wind_85 : decode cX8_wind 85 = .ok (.iload 5, 2) := by decide +kernel
theorem dX8_wind_87 : decode cX8_wind 87 = .ok (.bipush 10, 2) := by decide +kernel
theorem dX8_wind_89 : decode cX8_wind 89 = .ok (.iload_n 2, 1) := by decide +kernel
theorem dX8_wind_90 : decode cX8_wind 90 = .ok (.isub, 1) := by decide +kernel
theorem dX8_wind_91 : decode cX8_wind 91 = .ok (.iload 6, 2) := by decide +kernel
theorem dX8_wind_93 : decode cX8_wind 93 = .ok (.invokestatic 182, 3) := by decide +kernel
theorem dX8_wind_96 : decode cX8_wind 96 = .ok (.invokestatic 208, 3) := by decide +kernel
theorem dX8_wind_99 : decode cX8_wind 99 = .ok (.iload_n 2, 1) := by decide +kernel
theorem dX8_wind_100 : decode cX8_wind 100 = .ok (.iload 4, 2) := by decide +kernel
theorem dX8_wind_102 : decode cX8_wind 102 = .ok (.iload 6, 2) := by decide +kernel
theorem dX8_wind_104 : decode cX8_wind 104 = .ok (.iconst (-1), 1) := by decide +kernel
theorem dX8_wind_105 : decode cX8_wind 105 = .ok (.ixor, 1) := by decide +kernel
theorem dX8_wind_106 : decode cX8_wind 106 = .ok (.iand, 1) := by decide +kernel
theorem dX8_wind_107 : decode cX8_wind 107 = .ok (.invokestatic 182, 3) := by decide +kernel
theorem dX8_wind_110 : decode cX8_wind 110 = .ok (.invokestatic 208, 3) := by decide +kernel
theorem dX8_wind_113 : decode cX8_wind 113 = .ok (.imul, 1) := by decide +kernel
theorem dX8_wind_114 : decode cX8_wind 114 = .ok (.iadd, 1) := by decide +kernel
theorem dX8_wind_115 : decode cX8_wind 115 = .ok (.istore 5, 2) := by decide +kernel
theorem dX8_wind_117 : decode cX8_wind 117 = .ok (.iinc 6 1, 3) := by decide +kernel
theorem dX8_wind_120 : decode cX8_wind 120 = .ok (.goto (-69), 3) := by decide +kernel
theorem dX8_wind_123 : decode cX8_wind 123 = .ok (.bipush 10, 2) := by decide +kernel
theorem dX8_wind_125 : decode cX8_wind 125 = .ok (.iload 4, 2) := by decide +kernel
theorem dX8_wind_127 : decode cX8_wind 127 = .ok (.invokestatic 182, 3) := by decide +kernel
theorem dX8_wind_130 : decode cX8_wind 130 = .ok (.invokestatic 208, 3) := by decide +kernel
theorem dX8_wind_133 : decode cX8_wind 133 = .ok (.istore 6, 2) := by decide +kernel
theorem dX8_wind_135 : decode cX8_wind 135 = .ok (.iload 5, 2) := by decide +kernel
theorem dX8_wind_137 : decode cX8_wind 137 = .ok (.iload 6, 2) := by decide +kernel
theorem dX8_wind_139 : decode cX8_wind 139 = .ok (.invokestatic 211, 3) := by decide +kernel
theorem dX8_wind_142 : decode cX8_wind 142 = .ok (.istore 7, 2) := by decide +kernel
theorem dX8_wind_144 : decode cX8_wind 144 = .ok (.iload_n 3, 1) := by decide +kernel
theorem dX8_wind_145 : decode cX8_wind 145 = .ok (.ifCond .ne 8, 3) := by decide +kernel
theorem dX8_wind_148 : decode cX8_wind 148 = .ok (.iload 5, 2) := by decide +kernel
theorem dX8_wind_150 : decode cX8_wind 150 = .ok (.goto 5, 3) := by decide +kernel
theorem dX8_wind_153 : decode cX8_wind 153 = .ok (.iload 6, 2) := by decide +kernel
theorem dX8_wind_155 : decode cX8_wind 155 = .ok (.iload 7, 2) := by decide +kernel
theorem dX8_wind_157 : decode cX8_wind 157 = .ok (.idiv, 1) := by decide +kernel
theorem dX8_wind_158 : decode cX8_wind 158 = .ok (.ireturn, 1) := by decide +kernel
def R_X8_wind (a1 : Int32) (a2 : Int32) (a3 : Int32) (σ : kS) (x : Int32) (τ : kS) : Prop := Run SX jX8_wind [(.ref 0), (.int a1), (.int a2), (.int a3)] σ (some (.int x)) τ
def E_X8_wind_51 (l1 : Int32) (l2 : Int32) (l3 : Int32) (l4 : Int32) (l5 : Int32) (l6 : Int32) (σ : kS) (x : Int32) (τ : kS) : Prop := Ex SX jX8_wind 51 [some (.ref 0), some (.int l1), some (.int l2), some (.int l3), some (.int l4), some (.int l5), some (.int l6), none] [] σ (some (.int x)) τ
set_option maxRecDepth 20000 in
theorem t_X8_wind {a1 : Int32} {a2 : Int32} {a3 : Int32} {σ : kS} {x : Int32} {τ : kS}  (h : (¬ (wn a1 (σ.1 3 1)) → x = (-1 : Int32) ∧ τ = σ) ∧ ((wn a1 (σ.1 3 1)) → (¬ (wn a2 (11 : Int32)) → x = (-1 : Int32) ∧ τ = σ) ∧ ((wn a2 (11 : Int32)) → ((wn a3 (2 : Int32)) → ∃ (x5 : Int32) (s4 : kS), R_X7_standing 3 a1 σ x5 s4 ∧ (∃ (x7 : Int32) (s6 : kS), R_X7_rested 3 s4 x7 s6 ∧ (E_X8_wind_51 a1 a2 a3 (x5 &&& x7) (0 : Int32) (0 : Int32) s6 x τ))) ∧ (¬ (wn a3 (2 : Int32)) → x = (-1 : Int32) ∧ τ = σ)))) : R_X8_wind a1 a2 a3 σ x τ := by
  refine x_run [some (.ref 0), some (.int a1), some (.int a2), some (.int a3), none, none, none, none] (by decide +kernel) rfl (Nat.le_of_ble_eq_true rfl) ?_
  refine x_aload_n (pc := 0) 0 dX8_wind_0 rfl rfl ?_
  refine x_iload_n (pc := 1) 1 dX8_wind_1 rfl rfl ?_
  refine x_callV (pc := 2) [(.int a1)] [] dX8_wind_2 ⟨⟨hX8_isField.1, hX8_isField.2.1, hX8_isField.2.2, by decide⟩, mX8_103, vX8_isField.1, vX8_isField.2⟩ (ci := 8) rfl rfl rfl rfl (Nat.le_of_ble_eq_true rfl) (i_X8_isField) ?_
  refine x_bif_eq (pc := 5) 25 dX8_wind_5 (by decide) (fun c1 => ?_) (fun c1 => ?_)
  · replace h := h.1 c1
    refine x_iconst (pc := 25) (-1 : Int32) dX8_wind_25 (by decide +kernel) ?_
    exact x_ireturn2 (pc := 26) dX8_wind_26 rfl h.1 h.2
  · replace h := h.2 c1
    refine x_iload_n (pc := 8) 2 dX8_wind_8 rfl rfl ?_
    refine x_bipush (pc := 9) (11 : Int32) dX8_wind_9 (by decide +kernel) ?_
    refine x_callS (pc := 11) [(.int a2), (.int (11 : Int32))] [] dX8_wind_11 ⟨⟨hX8_within.1, hX8_within.2.1, hX8_within.2.2, by decide⟩, mX8_70, sX8_within⟩ rfl rfl (Nat.le_of_ble_eq_true rfl) (i_X8_within) ?_
    refine x_bif_eq (pc := 14) 25 dX8_wind_14 (by decide) (fun c2 => ?_) (fun c2 => ?_)
    · replace h := h.1 c2
      refine x_iconst (pc := 25) (-1 : Int32) dX8_wind_25 (by decide +kernel) ?_
      exact x_ireturn2 (pc := 26) dX8_wind_26 rfl h.1 h.2
    · replace h := h.2 c2
      refine x_iload_n (pc := 17) 3 dX8_wind_17 rfl rfl ?_
      refine x_iconst (pc := 18) (2 : Int32) dX8_wind_18 (by decide +kernel) ?_
      refine x_callS (pc := 19) [(.int a3), (.int (2 : Int32))] [] dX8_wind_19 ⟨⟨hX8_within.1, hX8_within.2.1, hX8_within.2.2, by decide⟩, mX8_70, sX8_within⟩ rfl rfl (Nat.le_of_ble_eq_true rfl) (i_X8_within) ?_
      refine x_bif_ne (pc := 22) 27 dX8_wind_22 (by decide) (fun c3 => ?_) (fun c3 => ?_)
      · replace h := h.1 c3
        refine x_aload_n (pc := 27) 0 dX8_wind_27 rfl rfl ?_
        refine x_getR (pc := 28) dX8_wind_28 fX8_19 rfl rfl ?_
        refine x_iload_n (pc := 31) 1 dX8_wind_31 rfl rfl ?_
        obtain ⟨x5, s4, hr, h⟩ := h
        refine x_callV (pc := 32) [(.int a1)] [] dX8_wind_32 ⟨⟨hX7_standing.1, hX7_standing.2.1, hX7_standing.2.2, by decide⟩, mX8_110, vX7_standing.1, vX7_standing.2⟩ (ci := 7) rfl rfl rfl rfl (Nat.le_of_ble_eq_true rfl) hr ?_
        refine x_aload_n (pc := 35) 0 dX8_wind_35 rfl rfl ?_
        refine x_getR (pc := 36) dX8_wind_36 fX8_19 rfl rfl ?_
        obtain ⟨x7, s6, hr, h⟩ := h
        refine x_callV (pc := 39) [] [(.int x5)] dX8_wind_39 ⟨⟨hX7_rested.1, hX7_rested.2.1, hX7_rested.2.2, by decide⟩, mX8_205, vX7_rested.1, vX7_rested.2⟩ (ci := 7) rfl rfl rfl rfl (Nat.le_of_ble_eq_true rfl) hr ?_
        refine x_iand (pc := 42) dX8_wind_42 ?_
        refine x_istore (pc := 43) dX8_wind_43 (by decide) rfl ?_
        refine x_iconst (pc := 45) (0 : Int32) dX8_wind_45 (by decide +kernel) ?_
        refine x_istore (pc := 46) dX8_wind_46 (by decide) rfl ?_
        refine x_iconst (pc := 48) (0 : Int32) dX8_wind_48 (by decide +kernel) ?_
        refine x_istore (pc := 49) dX8_wind_49 (by decide) rfl ?_
        exact h
      · replace h := h.2 c3
        refine x_iconst (pc := 25) (-1 : Int32) dX8_wind_25 (by decide +kernel) ?_
        exact x_ireturn2 (pc := 26) dX8_wind_26 rfl h.1 h.2
set_option maxRecDepth 20000 in
theorem t_X8_wind_51 {l1 : Int32} {l2 : Int32} {l3 : Int32} {l4 : Int32} {l5 : Int32} {l6 : Int32} {σ : kS} {x : Int32} {τ : kS}  (h : ((32 : Int32) ≤ l6 → ∃ (x3 : Int32) (s2 : kS), R_J6_bitCount_0f7a4 l4 σ x3 s2 ∧ (∃ (x5 : Int32) (s4 : kS), R_X8_power (10 : Int32) x3 s2 x5 s4 ∧ (∃ (x7 : Int32) (s6 : kS), R_X8_sharedDivisor l5 x5 s4 x7 s6 ∧ ((¬ l3 = 0 → ¬ x7 = 0 ∧ (x = (x5 / x7) ∧ τ = s6)) ∧ (l3 = 0 → ¬ x7 = 0 ∧ (x = (l5 / x7) ∧ τ = s6)))))) ∧ (¬ (32 : Int32) ≤ l6 → (¬ (l6 &&& (l4 ^^^ (-1 : Int32))) = 0 → E_X8_wind_51 l1 l2 l3 l4 l5 (l6 + (1 : Int32)) σ x τ) ∧ ((l6 &&& (l4 ^^^ (-1 : Int32))) = 0 → ∃ (x13 : Int32) (s12 : kS), R_X1_sing 3 l1 l6 σ x13 s12 ∧ ((x13 = 0 → E_X8_wind_51 l1 l2 l3 l4 l5 (l6 + (1 : Int32)) s12 x τ) ∧ (¬ x13 = 0 → ∃ (x16 : Int32) (s15 : kS), R_J6_bitCount_0f7a4 l6 s12 x16 s15 ∧ (∃ (x18 : Int32) (s17 : kS), R_X8_power ((10 : Int32) - l2) x16 s15 x18 s17 ∧ (∃ (x20 : Int32) (s19 : kS), R_J6_bitCount_0f7a4 (l4 &&& (l6 ^^^ (-1 : Int32))) s17 x20 s19 ∧ (∃ (x22 : Int32) (s21 : kS), R_X8_power l2 x20 s19 x22 s21 ∧ (E_X8_wind_51 l1 l2 l3 l4 (l5 + (x18 * x22)) (l6 + (1 : Int32)) s21 x τ))))))))) : E_X8_wind_51 l1 l2 l3 l4 l5 l6 σ x τ := by
  unfold E_X8_wind_51
  refine x_iload (pc := 51) dX8_wind_51 rfl ?_
  refine x_bipush (pc := 53) (32 : Int32) dX8_wind_53 (by decide +kernel) ?_
  refine x_icmp_ge (pc := 55) 123 dX8_wind_55 (by decide) (fun c1 => ?_) (fun c1 => ?_)
  · replace h := h.1 c1
    refine x_bipush (pc := 123) (10 : Int32) dX8_wind_123 (by decide +kernel) ?_
    refine x_iload (pc := 125) dX8_wind_125 rfl ?_
    obtain ⟨x3, s2, hr, h⟩ := h
    refine x_callS (pc := 127) [(.int l4)] [(.int (10 : Int32))] dX8_wind_127 ⟨⟨hJ6_bitCount_0f7a4.1, hJ6_bitCount_0f7a4.2.1, hJ6_bitCount_0f7a4.2.2, by decide⟩, mX8_182, sJ6_bitCount_0f7a4⟩ rfl rfl (Nat.le_of_ble_eq_true rfl) hr ?_
    obtain ⟨x5, s4, hr, h⟩ := h
    refine x_callS (pc := 130) [(.int (10 : Int32)), (.int x3)] [] dX8_wind_130 ⟨⟨hX8_power.1, hX8_power.2.1, hX8_power.2.2, by decide⟩, mX8_208, sX8_power⟩ rfl rfl (Nat.le_of_ble_eq_true rfl) hr ?_
    refine x_istore (pc := 133) dX8_wind_133 (by decide) rfl ?_
    refine x_iload (pc := 135) dX8_wind_135 rfl ?_
    refine x_iload (pc := 137) dX8_wind_137 rfl ?_
    obtain ⟨x7, s6, hr, h⟩ := h
    refine x_callS (pc := 139) [(.int l5), (.int x5)] [] dX8_wind_139 ⟨⟨hX8_sharedDivisor.1, hX8_sharedDivisor.2.1, hX8_sharedDivisor.2.2, by decide⟩, mX8_211, sX8_sharedDivisor⟩ rfl rfl (Nat.le_of_ble_eq_true rfl) hr ?_
    refine x_istore (pc := 142) dX8_wind_142 (by decide) rfl ?_
    refine x_iload_n (pc := 144) 3 dX8_wind_144 rfl rfl ?_
    refine x_if_ne (pc := 145) 153 dX8_wind_145 (by decide) (fun c8 => ?_) (fun c8 => ?_)
    · replace h := h.1 c8
      refine x_iload (pc := 153) dX8_wind_153 rfl ?_
      refine x_iload (pc := 155) dX8_wind_155 rfl ?_
      obtain ⟨g9, h⟩ := h
      refine x_idiv (pc := 157) dX8_wind_157 g9 ?_
      exact x_ireturn2 (pc := 158) dX8_wind_158 rfl h.1 h.2
    · replace h := h.2 c8
      refine x_iload (pc := 148) dX8_wind_148 rfl ?_
      refine x_goto (pc := 150) 155 dX8_wind_150 (by decide) ?_
      refine x_iload (pc := 155) dX8_wind_155 rfl ?_
      obtain ⟨g10, h⟩ := h
      refine x_idiv (pc := 157) dX8_wind_157 g10 ?_
      exact x_ireturn2 (pc := 158) dX8_wind_158 rfl h.1 h.2
  · replace h := h.2 c1
    refine x_iload (pc := 58) dX8_wind_58 rfl ?_
    refine x_iload (pc := 60) dX8_wind_60 rfl ?_
    refine x_iconst (pc := 62) (-1 : Int32) dX8_wind_62 (by decide +kernel) ?_
    refine x_ixor (pc := 63) dX8_wind_63 ?_
    refine x_iand (pc := 64) dX8_wind_64 ?_
    refine x_if_ne (pc := 65) 117 dX8_wind_65 (by decide) (fun c11 => ?_) (fun c11 => ?_)
    · replace h := h.1 c11
      refine x_iinc (pc := 117) (1 : Int32) dX8_wind_117 (by decide) rfl rfl (by decide +kernel) ?_
      refine x_goto (pc := 120) 51 dX8_wind_120 (by decide) ?_
      exact h
    · replace h := h.2 c11
      refine x_aload_n (pc := 68) 0 dX8_wind_68 rfl rfl ?_
      refine x_getR (pc := 69) dX8_wind_69 fX8_40 rfl rfl ?_
      refine x_aload_n (pc := 72) 0 dX8_wind_72 rfl rfl ?_
      refine x_getR (pc := 73) dX8_wind_73 fX8_19 rfl rfl ?_
      refine x_iload_n (pc := 76) 1 dX8_wind_76 rfl rfl ?_
      refine x_iload (pc := 77) dX8_wind_77 rfl ?_
      obtain ⟨x13, s12, hr, h⟩ := h
      refine x_callV (pc := 79) [(.ref 3), (.int l1), (.int l6)] [] dX8_wind_79 ⟨⟨hX1_sing.1, hX1_sing.2.1, hX1_sing.2.2, by decide⟩, mX8_187, vX1_sing.1, vX1_sing.2⟩ (ci := 1) rfl rfl rfl rfl (Nat.le_of_ble_eq_true rfl) hr ?_
      refine x_if_eq (pc := 82) 117 dX8_wind_82 (by decide) (fun c14 => ?_) (fun c14 => ?_)
      · replace h := h.1 c14
        refine x_iinc (pc := 117) (1 : Int32) dX8_wind_117 (by decide) rfl rfl (by decide +kernel) ?_
        refine x_goto (pc := 120) 51 dX8_wind_120 (by decide) ?_
        exact h
      · replace h := h.2 c14
        refine x_iload (pc := 85) dX8_wind_85 rfl ?_
        refine x_bipush (pc := 87) (10 : Int32) dX8_wind_87 (by decide +kernel) ?_
        refine x_iload_n (pc := 89) 2 dX8_wind_89 rfl rfl ?_
        refine x_isub (pc := 90) dX8_wind_90 ?_
        refine x_iload (pc := 91) dX8_wind_91 rfl ?_
        obtain ⟨x16, s15, hr, h⟩ := h
        refine x_callS (pc := 93) [(.int l6)] [(.int ((10 : Int32) - l2)), (.int l5)] dX8_wind_93 ⟨⟨hJ6_bitCount_0f7a4.1, hJ6_bitCount_0f7a4.2.1, hJ6_bitCount_0f7a4.2.2, by decide⟩, mX8_182, sJ6_bitCount_0f7a4⟩ rfl rfl (Nat.le_of_ble_eq_true rfl) hr ?_
        obtain ⟨x18, s17, hr, h⟩ := h
        refine x_callS (pc := 96) [(.int ((10 : Int32) - l2)), (.int x16)] [(.int l5)] dX8_wind_96 ⟨⟨hX8_power.1, hX8_power.2.1, hX8_power.2.2, by decide⟩, mX8_208, sX8_power⟩ rfl rfl (Nat.le_of_ble_eq_true rfl) hr ?_
        refine x_iload_n (pc := 99) 2 dX8_wind_99 rfl rfl ?_
        refine x_iload (pc := 100) dX8_wind_100 rfl ?_
        refine x_iload (pc := 102) dX8_wind_102 rfl ?_
        refine x_iconst (pc := 104) (-1 : Int32) dX8_wind_104 (by decide +kernel) ?_
        refine x_ixor (pc := 105) dX8_wind_105 ?_
        refine x_iand (pc := 106) dX8_wind_106 ?_
        obtain ⟨x20, s19, hr, h⟩ := h
        refine x_callS (pc := 107) [(.int (l4 &&& (l6 ^^^ (-1 : Int32))))] [(.int l2), (.int x18), (.int l5)] dX8_wind_107 ⟨⟨hJ6_bitCount_0f7a4.1, hJ6_bitCount_0f7a4.2.1, hJ6_bitCount_0f7a4.2.2, by decide⟩, mX8_182, sJ6_bitCount_0f7a4⟩ rfl rfl (Nat.le_of_ble_eq_true rfl) hr ?_
        obtain ⟨x22, s21, hr, h⟩ := h
        refine x_callS (pc := 110) [(.int l2), (.int x20)] [(.int x18), (.int l5)] dX8_wind_110 ⟨⟨hX8_power.1, hX8_power.2.1, hX8_power.2.2, by decide⟩, mX8_208, sX8_power⟩ rfl rfl (Nat.le_of_ble_eq_true rfl) hr ?_
        refine x_imul (pc := 113) dX8_wind_113 ?_
        refine x_iadd (pc := 114) dX8_wind_114 ?_
        refine x_istore (pc := 115) dX8_wind_115 (by decide) rfl ?_
        refine x_iinc (pc := 117) (1 : Int32) dX8_wind_117 (by decide) rfl rfl (by decide +kernel) ?_
        refine x_goto (pc := 120) 51 dX8_wind_120 (by decide) ?_
        exact h
theorem dX8_decades_0 : decode cX8_decades 0 = .ok (.iload_n 1, 1) := by decide +kernel
theorem dX8_decades_1 : decode cX8_decades 1 = .ok (.ifCond .lt 28, 3) := by decide +kernel
theorem dX8_decades_4 : decode cX8_decades 4 = .ok (.iload_n 1, 1) := by decide +kernel
theorem dX8_decades_5 : decode cX8_decades 5 = .ok (.bipush 60, 2) := by decide +kernel
theorem dX8_decades_7 : decode cX8_decades 7 = .ok (.if_icmp .gt 22, 3) := by decide +kernel
theorem dX8_decades_10 : decode cX8_decades 10 = .ok (.iload_n 2, 1) := by decide +kernel
theorem dX8_decades_11 : decode cX8_decades 11 = .ok (.iconst 1, 1) := by decide +kernel
theorem dX8_decades_12 : decode cX8_decades 12 = .ok (.if_icmp .lt 17, 3) := by decide +kernel
theorem dX8_decades_15 : decode cX8_decades 15 = .ok (.iload_n 2, 1) := by decide +kernel
theorem dX8_decades_16 : decode cX8_decades 16 = .ok (.ldc 214, 2) := by decide +kernel
theorem dX8_decades_18 : decode cX8_decades 18 = .ok (.if_icmp .gt 11, 3) := by decide +kernel
theorem dX8_decades_21 : decode cX8_decades 21 = .ok (.iload_n 3, 1) := by decide +kernel
theorem dX8_decades_22 : decode cX8_decades 22 = .ok (.iconst 2, 1) := by decide +kernel
theorem dX8_decades_23 : decode cX8_decades 23 = .ok (.invokestatic 70, 3) := by decide +kernel
theorem dX8_decades_26 : decode cX8_decades 26 = .ok (.ifCond .ne 5, 3) := by decide +kernel
theorem dX8_decades_29 : decode cX8_decades 29 = .ok (.iconst (-1), 1) := by decide +kernel
theorem dX8_decades_30 : decode cX8_decades 30 = .ok (.ireturn, 1) := by decide +kernel
theorem dX8_decades_31 : decode cX8_decades 31 = .ok (.aload_n 0, 1) := by decide +kernel
theorem dX8_decades_32 : decode cX8_decades 32 = .ok (.getfield 19, 3) := by decide +kernel
theorem dX8_decades_35 : decode cX8_decades 35 = .ok (.invokevirtual 143, 3) := by decide +kernel
theorem dX8_decades_38 : decode cX8_decades 38 = .ok (.ifCond .ne 6, 3) := by decide +kernel
theorem dX8_decades_41 : decode cX8_decades 41 = .ok (.bipush (-2), 2) := by decide +kernel
theorem dX8_decades_43 : decode cX8_decades 43 = .ok (.ireturn, 1) := by decide +kernel
theorem dX8_decades_44 : decode cX8_decades 44 = .ok (.aload_n 0, 1) := by decide +kernel
theorem dX8_decades_45 : decode cX8_decades 45 = .ok (.getfield 23, 3) := by decide +kernel
theorem dX8_decades_48 : decode cX8_decades 48 = .ok (.aload_n 0, 1) := by decide +kernel
theorem dX8_decades_49 : decode cX8_decades 49 = .ok (.getfield 19, 3) := by decide +kernel
theorem dX8_decades_52 : decode cX8_decades 52 = .ok (.invokevirtual 170, 3) := by decide +kernel
theorem dX8_decades_55 : decode cX8_decades 55 = .ok (.iload_n 2, 1) := by decide +kernel
theorem dX8_decades_56 : decode cX8_decades 56 = .ok (.i2l, 1) := by decide +kernel
theorem dX8_decades_57 : decode cX8_decades 57 = .ok (.lstore 4, 2) := by decide +kernel
theorem dX8_decades_59 : decode cX8_decades 59 = .ok (.iconst 0, 1) := by decide +kernel
theorem dX8_decades_60 : decode cX8_decades 60 = .ok (.istore 6, 2) := by decide +kernel
theorem dX8_decades_62 : decode cX8_decades 62 = .ok (.iconst 0, 1) := by decide +kernel
theorem dX8_decades_63 : decode cX8_decades 63 = .ok (.istore 7, 2) := by decide +kernel
theorem dX8_decades_65 : decode cX8_decades 65 = .ok (.iload 7, 2) := by decide +kernel
theorem dX8_decades_67 : decode cX8_decades 67 = .ok (.iload_n 1, 1) := by decide +kernel
theorem dX8_decades_68 : decode cX8_decades 68 = .ok (.if_icmp .ge 49, 3) := by decide +kernel
theorem dX8_decades_71 : decode cX8_decades 71 = .ok (.ldc2_w 215, 3) := by decide +kernel
theorem dX8_decades_74 : decode cX8_decades 74 = .ok (.lload 4, 2) := by decide +kernel
theorem dX8_decades_76 : decode cX8_decades 76 = .ok (.lmul, 1) := by decide +kernel
theorem dX8_decades_77 : decode cX8_decades 77 = .ok (.ldc2_w 217, 3) := by decide +kernel
theorem dX8_decades_80 : decode cX8_decades 80 = .ok (.lrem, 1) := by decide +kernel
theorem dX8_decades_81 : decode cX8_decades 81 = .ok (.lstore 4, 2) := by decide +kernel
theorem dX8_decades_83 : decode cX8_decades 83 = .ok (.aload_n 0, 1) := by decide +kernel
theorem dX8_decades_84 : decode cX8_decades 84 = .ok (.getfield 23, 3) := by decide +kernel
theorem dX8_decades_87 : decode cX8_decades 87 = .ok (.lload 4, 2) := by decide +kernel
theorem dX8_decades_89 : decode cX8_decades 89 = .ok (.invokevirtual 219, 3) := by decide +kernel
theorem dX8_decades_92 : decode cX8_decades 92 = .ok (.iload 6, 2) := by decide +kernel
theorem dX8_decades_94 : decode cX8_decades 94 = .ok (.aload_n 0, 1) := by decide +kernel
theorem dX8_decades_95 : decode cX8_decades 95 = .ok (.getfield 40, 3) := by decide +kernel
theorem dX8_decades_98 : decode cX8_decades 98 = .ok (.aload_n 0, 1) := by decide +kernel
theorem dX8_decades_99 : decode cX8_decades 99 = .ok (.getfield 23, 3) := by decide +kernel
theorem dX8_decades_102 : decode cX8_decades 102 = .ok (.invokevirtual 158, 3) := by decide +kernel
theorem dX8_decades_105 : decode cX8_decades 105 = .ok (.invokestatic 182, 3) := by decide +kernel
theorem dX8_decades_108 : decode cX8_decades 108 = .ok (.iadd, 1) := by decide +kernel
theorem dX8_decades_109 : decode cX8_decades 109 = .ok (.istore 6, 2) := by decide +kernel
theorem dX8_decades_111 : decode cX8_decades 111 = .ok (.iinc 7 1, 3) := by decide +kernel
theorem dX8_decades_114 : decode cX8_decades 114 = .ok (.goto (-49), 3) := by decide +kernel
theorem dX8_decades_117 : decode cX8_decades 117 = .ok (.iload_n 3, 1) := by decide +kernel
theorem dX8_decades_118 : decode cX8_decades 118 = .ok (.ifCond .ne 8, 3) := by decide +kernel
theorem dX8_decades_121 : decode cX8_decades 121 = .ok (.iload 6, 2) := by decide +kernel
theorem dX8_decades_123 : decode cX8_decades 123 = .ok (.goto 10, 3) := by decide +kernel
theorem dX8_decades_126 : decode cX8_decades 126 = .ok (.aload_n 0, 1) := by decide +kernel
theorem dX8_decades_127 : decode cX8_decades 127 = .ok (.getfield 23, 3) := by decide +kernel
theorem dX8_decades_130 : decode cX8_decades 130 = .ok (.invokevirtual 179, 3) := by decide +kernel
theorem dX8_decades_133 : decode cX8_decades 133 = .ok (.ireturn, 1) := by decide +kernel
def R_X8_decades (a1 : Int32) (a2 : Int32) (a3 : Int32) (σ : kS) (x : Int32) (τ : kS) : Prop := Run SX jX8_decades [(.ref 0), (.int a1), (.int a2), (.int a3)] σ (some (.int x)) τ
def E_X8_decades_65 (l1 : Int32) (l3 : Int32) (l4 : Int64) (l6 : Int32) (l7 : Int32) (σ : kS) (x : Int32) (τ : kS) : Prop := Ex SX jX8_decades 65 [some (.ref 0), some (.int l1), none, some (.int l3), some (.long l4), none, some (.int l6), some (.int l7)] [] σ (some (.int x)) τ
set_option maxRecDepth 20000 in
theorem t_X8_decades {a1 : Int32} {a2 : Int32} {a3 : Int32} {σ : kS} {x : Int32} {τ : kS}  (h : (a1 < 0 → x = (-1 : Int32) ∧ τ = σ) ∧ (¬ a1 < 0 → ((60 : Int32) < a1 → x = (-1 : Int32) ∧ τ = σ) ∧ (¬ (60 : Int32) < a1 → (a2 < (1 : Int32) → x = (-1 : Int32) ∧ τ = σ) ∧ (¬ a2 < (1 : Int32) → ((999999 : Int32) < a2 → x = (-1 : Int32) ∧ τ = σ) ∧ (¬ (999999 : Int32) < a2 → ((wn a3 (2 : Int32)) → ((0 < (σ.1 3 1) ∧ 0 < (σ.1 3 2)) → ∃ s7 : kS, R_X7_become 11 3 σ s7 ∧ (E_X8_decades_65 a1 a3 a2.toInt64 (0 : Int32) (0 : Int32) s7 x τ)) ∧ (¬ (0 < (σ.1 3 1) ∧ 0 < (σ.1 3 2)) → x = (-2 : Int32) ∧ τ = σ)) ∧ (¬ (wn a3 (2 : Int32)) → x = (-1 : Int32) ∧ τ = σ)))))) : R_X8_decades a1 a2 a3 σ x τ := by
  refine x_run [some (.ref 0), some (.int a1), some (.int a2), some (.int a3), none, none, none, none] (by decide +kernel) rfl (Nat.le_of_ble_eq_true rfl) ?_
  refine x_iload_n (pc := 0) 1 dX8_decades_0 rfl rfl ?_
  refine x_if_lt (pc := 1) 29 dX8_decades_1 (by decide) (fun c1 => ?_) (fun c1 => ?_)
  · replace h := h.1 c1
    refine x_iconst (pc := 29) (-1 : Int32) dX8_decades_29 (by decide +kernel) ?_
    exact x_ireturn2 (pc := 30) dX8_decades_30 rfl h.1 h.2
  · replace h := h.2 c1
    refine x_iload_n (pc := 4) 1 dX8_decades_4 rfl rfl ?_
    refine x_bipush (pc := 5) (60 : Int32) dX8_decades_5 (by decide +kernel) ?_
    refine x_icmp_gt (pc := 7) 29 dX8_decades_7 (by decide) (fun c2 => ?_) (fun c2 => ?_)
    · replace h := h.1 c2
      refine x_iconst (pc := 29) (-1 : Int32) dX8_decades_29 (by decide +kernel) ?_
      exact x_ireturn2 (pc := 30) dX8_decades_30 rfl h.1 h.2
    · replace h := h.2 c2
      refine x_iload_n (pc := 10) 2 dX8_decades_10 rfl rfl ?_
      refine x_iconst (pc := 11) (1 : Int32) dX8_decades_11 (by decide +kernel) ?_
      refine x_icmp_lt (pc := 12) 29 dX8_decades_12 (by decide) (fun c3 => ?_) (fun c3 => ?_)
      · replace h := h.1 c3
        refine x_iconst (pc := 29) (-1 : Int32) dX8_decades_29 (by decide +kernel) ?_
        exact x_ireturn2 (pc := 30) dX8_decades_30 rfl h.1 h.2
      · replace h := h.2 c3
        refine x_iload_n (pc := 15) 2 dX8_decades_15 rfl rfl ?_
        refine x_ldc (pc := 16) dX8_decades_16 cX8_214 ?_
        refine x_icmp_gt (pc := 18) 29 dX8_decades_18 (by decide) (fun c4 => ?_) (fun c4 => ?_)
        · replace h := h.1 c4
          refine x_iconst (pc := 29) (-1 : Int32) dX8_decades_29 (by decide +kernel) ?_
          exact x_ireturn2 (pc := 30) dX8_decades_30 rfl h.1 h.2
        · replace h := h.2 c4
          refine x_iload_n (pc := 21) 3 dX8_decades_21 rfl rfl ?_
          refine x_iconst (pc := 22) (2 : Int32) dX8_decades_22 (by decide +kernel) ?_
          refine x_callS (pc := 23) [(.int a3), (.int (2 : Int32))] [] dX8_decades_23 ⟨⟨hX8_within.1, hX8_within.2.1, hX8_within.2.2, by decide⟩, mX8_70, sX8_within⟩ rfl rfl (Nat.le_of_ble_eq_true rfl) (i_X8_within) ?_
          refine x_bif_ne (pc := 26) 31 dX8_decades_26 (by decide) (fun c5 => ?_) (fun c5 => ?_)
          · replace h := h.1 c5
            refine x_aload_n (pc := 31) 0 dX8_decades_31 rfl rfl ?_
            refine x_getR (pc := 32) dX8_decades_32 fX8_19 rfl rfl ?_
            refine x_callV (pc := 35) [] [] dX8_decades_35 ⟨⟨hX7_isThere.1, hX7_isThere.2.1, hX7_isThere.2.2, by decide⟩, mX8_143, vX7_isThere.1, vX7_isThere.2⟩ (ci := 7) rfl rfl rfl rfl (Nat.le_of_ble_eq_true rfl) (i_X7_isThere rfl) ?_
            refine x_bif_ne (pc := 38) 44 dX8_decades_38 (by decide) (fun c6 => ?_) (fun c6 => ?_)
            · replace h := h.1 c6
              refine x_aload_n (pc := 44) 0 dX8_decades_44 rfl rfl ?_
              refine x_getR (pc := 45) dX8_decades_45 fX8_23 rfl rfl ?_
              refine x_aload_n (pc := 48) 0 dX8_decades_48 rfl rfl ?_
              refine x_getR (pc := 49) dX8_decades_49 fX8_19 rfl rfl ?_
              obtain ⟨s7, hr, h⟩ := h
              refine x_callV (pc := 52) [(.ref 3)] [] dX8_decades_52 ⟨⟨hX7_become.1, hX7_become.2.1, hX7_become.2.2, by decide⟩, mX8_170, vX7_become.1, vX7_become.2⟩ (ci := 7) rfl rfl rfl rfl (Nat.le_of_ble_eq_true rfl) hr ?_
              refine x_iload_n (pc := 55) 2 dX8_decades_55 rfl rfl ?_
              refine x_i2l (pc := 56) dX8_decades_56 ?_
              refine x_lstore (pc := 57) dX8_decades_57 (by decide) rfl ?_
              refine x_iconst (pc := 59) (0 : Int32) dX8_decades_59 (by decide +kernel) ?_
              refine x_istore (pc := 60) dX8_decades_60 (by decide) rfl ?_
              refine x_iconst (pc := 62) (0 : Int32) dX8_decades_62 (by decide +kernel) ?_
              refine x_istore (pc := 63) dX8_decades_63 (by decide) rfl ?_
              exact x_mask [true, true, false, true, true, false, true, true] h
            · replace h := h.2 c6
              refine x_bipush (pc := 41) (-2 : Int32) dX8_decades_41 (by decide +kernel) ?_
              exact x_ireturn2 (pc := 43) dX8_decades_43 rfl h.1 h.2
          · replace h := h.2 c5
            refine x_iconst (pc := 29) (-1 : Int32) dX8_decades_29 (by decide +kernel) ?_
            exact x_ireturn2 (pc := 30) dX8_decades_30 rfl h.1 h.2
set_option maxRecDepth 20000 in
theorem t_X8_decades_65 {l1 : Int32} {l3 : Int32} {l4 : Int64} {l6 : Int32} {l7 : Int32} {σ : kS} {x : Int32} {τ : kS}  (h : (l1 ≤ l7 → (¬ l3 = 0 → ∃ (x4 : Int32) (s3 : kS), R_X7_tiredInAll 11 σ x4 s3 ∧ (x = x4 ∧ τ = s3)) ∧ (l3 = 0 → x = l6 ∧ τ = σ)) ∧ (¬ l1 ≤ l7 → ∃ s5 : kS, R_X7_disturb 11 (((16807 : Int64) * l4) - ((16807 : Int64) * l4) / (2147483647 : Int64) * (2147483647 : Int64)) σ s5 ∧ (∃ (x7 : Int32) (s6 : kS), R_X1_passHour 11 s5 x7 s6 ∧ (∃ (x9 : Int32) (s8 : kS), R_J6_bitCount_0f7a4 x7 s6 x9 s8 ∧ (E_X8_decades_65 l1 l3 (((16807 : Int64) * l4) - ((16807 : Int64) * l4) / (2147483647 : Int64) * (2147483647 : Int64)) (l6 + x9) (l7 + (1 : Int32)) s8 x τ))))) : E_X8_decades_65 l1 l3 l4 l6 l7 σ x τ := by
  unfold E_X8_decades_65
  refine x_iload (pc := 65) dX8_decades_65 rfl ?_
  refine x_iload_n (pc := 67) 1 dX8_decades_67 rfl rfl ?_
  refine x_icmp_ge (pc := 68) 117 dX8_decades_68 (by decide) (fun c1 => ?_) (fun c1 => ?_)
  · replace h := h.1 c1
    refine x_iload_n (pc := 117) 3 dX8_decades_117 rfl rfl ?_
    refine x_if_ne (pc := 118) 126 dX8_decades_118 (by decide) (fun c2 => ?_) (fun c2 => ?_)
    · replace h := h.1 c2
      refine x_aload_n (pc := 126) 0 dX8_decades_126 rfl rfl ?_
      refine x_getR (pc := 127) dX8_decades_127 fX8_23 rfl rfl ?_
      obtain ⟨x4, s3, hr, h⟩ := h
      refine x_callV (pc := 130) [] [] dX8_decades_130 ⟨⟨hX7_tiredInAll.1, hX7_tiredInAll.2.1, hX7_tiredInAll.2.2, by decide⟩, mX8_179, vX7_tiredInAll.1, vX7_tiredInAll.2⟩ (ci := 7) rfl rfl rfl rfl (Nat.le_of_ble_eq_true rfl) hr ?_
      exact x_ireturn2 (pc := 133) dX8_decades_133 rfl h.1 h.2
    · replace h := h.2 c2
      refine x_iload (pc := 121) dX8_decades_121 rfl ?_
      refine x_goto (pc := 123) 133 dX8_decades_123 (by decide) ?_
      exact x_ireturn2 (pc := 133) dX8_decades_133 rfl h.1 h.2
  · replace h := h.2 c1
    refine x_ldc2 (pc := 71) dX8_decades_71 clX8_215 ?_
    refine x_lload (pc := 74) dX8_decades_74 rfl ?_
    refine x_lmul (pc := 76) dX8_decades_76 ?_
    refine x_ldc2 (pc := 77) dX8_decades_77 clX8_217 ?_
    refine x_lrem (pc := 80) dX8_decades_80 (by decide) ?_
    refine x_lstore (pc := 81) dX8_decades_81 (by decide) rfl ?_
    refine x_aload_n (pc := 83) 0 dX8_decades_83 rfl rfl ?_
    refine x_getR (pc := 84) dX8_decades_84 fX8_23 rfl rfl ?_
    refine x_lload (pc := 87) dX8_decades_87 rfl ?_
    obtain ⟨s5, hr, h⟩ := h
    refine x_callV (pc := 89) [(.long (((16807 : Int64) * l4) - ((16807 : Int64) * l4) / (2147483647 : Int64) * (2147483647 : Int64)))] [] dX8_decades_89 ⟨⟨hX7_disturb.1, hX7_disturb.2.1, hX7_disturb.2.2, by decide⟩, mX8_219, vX7_disturb.1, vX7_disturb.2⟩ (ci := 7) rfl rfl rfl rfl (Nat.le_of_ble_eq_true rfl) hr ?_
    refine x_iload (pc := 92) dX8_decades_92 rfl ?_
    refine x_aload_n (pc := 94) 0 dX8_decades_94 rfl rfl ?_
    refine x_getR (pc := 95) dX8_decades_95 fX8_40 rfl rfl ?_
    refine x_aload_n (pc := 98) 0 dX8_decades_98 rfl rfl ?_
    refine x_getR (pc := 99) dX8_decades_99 fX8_23 rfl rfl ?_
    obtain ⟨x7, s6, hr, h⟩ := h
    refine x_callV (pc := 102) [(.ref 11)] [(.int l6)] dX8_decades_102 ⟨⟨hX1_passHour.1, hX1_passHour.2.1, hX1_passHour.2.2, by decide⟩, mX8_158, vX1_passHour.1, vX1_passHour.2⟩ (ci := 1) rfl rfl rfl rfl (Nat.le_of_ble_eq_true rfl) hr ?_
    obtain ⟨x9, s8, hr, h⟩ := h
    refine x_callS (pc := 105) [(.int x7)] [(.int l6)] dX8_decades_105 ⟨⟨hJ6_bitCount_0f7a4.1, hJ6_bitCount_0f7a4.2.1, hJ6_bitCount_0f7a4.2.2, by decide⟩, mX8_182, sJ6_bitCount_0f7a4⟩ rfl rfl (Nat.le_of_ble_eq_true rfl) hr ?_
    refine x_iadd (pc := 108) dX8_decades_108 ?_
    refine x_istore (pc := 109) dX8_decades_109 (by decide) rfl ?_
    refine x_iinc (pc := 111) (1 : Int32) dX8_decades_111 (by decide) rfl rfl (by decide +kernel) ?_
    refine x_goto (pc := 114) 65 dX8_decades_114 (by decide) ?_
    exact h
theorem dX8_sheet_0 : decode cX8_sheet 0 = .ok (.iload_n 1, 1) := by decide +kernel
theorem dX8_sheet_1 : decode cX8_sheet 1 = .ok (.iconst 4, 1) := by decide +kernel
theorem dX8_sheet_2 : decode cX8_sheet 2 = .ok (.invokestatic 70, 3) := by decide +kernel
theorem dX8_sheet_5 : decode cX8_sheet 5 = .ok (.ifCond .eq 17, 3) := by decide +kernel
theorem dX8_sheet_8 : decode cX8_sheet 8 = .ok (.iload_n 2, 1) := by decide +kernel
theorem dX8_sheet_9 : decode cX8_sheet 9 = .ok (.iconst 4, 1) := by decide +kernel
theorem dX8_sheet_10 : decode cX8_sheet 10 = .ok (.invokestatic 70, 3) := by decide +kernel
theorem dX8_sheet_13 : decode cX8_sheet 13 = .ok (.ifCond .eq 9, 3) := by decide +kernel
theorem dX8_sheet_16 : decode cX8_sheet 16 = .ok (.iload_n 3, 1) := by decide +kernel
theorem dX8_sheet_17 : decode cX8_sheet 17 = .ok (.bipush 24, 2) := by decide +kernel
theorem dX8_sheet_19 : decode cX8_sheet 19 = .ok (.if_icmp .le 5, 3) := by decide +kernel
theorem dX8_sheet_22 : decode cX8_sheet 22 = .ok (.iconst (-1), 1) := by decide +kernel
theorem dX8_sheet_23 : decode cX8_sheet 23 = .ok (.ireturn, 1) := by decide +kernel
theorem dX8_sheet_24 : decode cX8_sheet 24 = .ok (.iload_n 3, 1) := by decide +kernel
theorem dX8_sheet_25 : decode cX8_sheet 25 = .ok (.ifCond .ge 6, 3) := by decide +kernel
theorem dX8_sheet_28 : decode cX8_sheet 28 = .ok (.bipush (-14), 2) := by decide +kernel
theorem dX8_sheet_30 : decode cX8_sheet 30 = .ok (.ireturn, 1) := by decide +kernel
theorem dX8_sheet_31 : decode cX8_sheet 31 = .ok (.aload_n 0, 1) := by decide +kernel
theorem dX8_sheet_32 : decode cX8_sheet 32 = .ok (.getfield 65, 3) := by decide +kernel
theorem dX8_sheet_35 : decode cX8_sheet 35 = .ok (.iload_n 1, 1) := by decide +kernel
theorem dX8_sheet_36 : decode cX8_sheet 36 = .ok (.aaload, 1) := by decide +kernel
theorem dX8_sheet_37 : decode cX8_sheet 37 = .ok (.iload_n 2, 1) := by decide +kernel
theorem dX8_sheet_38 : decode cX8_sheet 38 = .ok (.iload_n 3, 1) := by decide +kernel
theorem dX8_sheet_39 : decode cX8_sheet 39 = .ok (.invokevirtual 223, 3) := by decide +kernel
theorem dX8_sheet_42 : decode cX8_sheet 42 = .ok (.iload_n 3, 1) := by decide +kernel
theorem dX8_sheet_43 : decode cX8_sheet 43 = .ok (.ireturn, 1) := by decide +kernel
def R_X8_sheet (a1 : Int32) (a2 : Int32) (a3 : Int32) (σ : kS) (x : Int32) (τ : kS) : Prop := Run SX jX8_sheet [(.ref 0), (.int a1), (.int a2), (.int a3)] σ (some (.int x)) τ
set_option maxRecDepth 20000 in
theorem t_X8_sheet {a1 : Int32} {a2 : Int32} {a3 : Int32} {σ : kS} {x : Int32} {τ : kS}  (h : (¬ (wn a1 (4 : Int32)) → x = (-1 : Int32) ∧ τ = σ) ∧ ((wn a1 (4 : Int32)) → (¬ (wn a2 (4 : Int32)) → x = (-1 : Int32) ∧ τ = σ) ∧ ((wn a2 (4 : Int32)) → (a3 ≤ (24 : Int32) → (0 ≤ a3 → vp_in a1 4 ∧ ∃ q6 : Nat, k_fd SX 38 a1.toNatClampNeg = some (some q6) ∧ k_sht q6 = true ∧ (∃ s8 : kS, R_X4_begin q6 a2 a3 σ s8 ∧ (x = a3 ∧ τ = s8))) ∧ (¬ 0 ≤ a3 → x = (-14 : Int32) ∧ τ = σ)) ∧ (¬ a3 ≤ (24 : Int32) → x = (-1 : Int32) ∧ τ = σ)))) : R_X8_sheet a1 a2 a3 σ x τ := by
  refine x_run [some (.ref 0), some (.int a1), some (.int a2), some (.int a3)] (by decide +kernel) rfl (Nat.le_of_ble_eq_true rfl) ?_
  refine x_iload_n (pc := 0) 1 dX8_sheet_0 rfl rfl ?_
  refine x_iconst (pc := 1) (4 : Int32) dX8_sheet_1 (by decide +kernel) ?_
  refine x_callS (pc := 2) [(.int a1), (.int (4 : Int32))] [] dX8_sheet_2 ⟨⟨hX8_within.1, hX8_within.2.1, hX8_within.2.2, by decide⟩, mX8_70, sX8_within⟩ rfl rfl (Nat.le_of_ble_eq_true rfl) (i_X8_within) ?_
  refine x_bif_eq (pc := 5) 22 dX8_sheet_5 (by decide) (fun c1 => ?_) (fun c1 => ?_)
  · replace h := h.1 c1
    refine x_iconst (pc := 22) (-1 : Int32) dX8_sheet_22 (by decide +kernel) ?_
    exact x_ireturn2 (pc := 23) dX8_sheet_23 rfl h.1 h.2
  · replace h := h.2 c1
    refine x_iload_n (pc := 8) 2 dX8_sheet_8 rfl rfl ?_
    refine x_iconst (pc := 9) (4 : Int32) dX8_sheet_9 (by decide +kernel) ?_
    refine x_callS (pc := 10) [(.int a2), (.int (4 : Int32))] [] dX8_sheet_10 ⟨⟨hX8_within.1, hX8_within.2.1, hX8_within.2.2, by decide⟩, mX8_70, sX8_within⟩ rfl rfl (Nat.le_of_ble_eq_true rfl) (i_X8_within) ?_
    refine x_bif_eq (pc := 13) 22 dX8_sheet_13 (by decide) (fun c2 => ?_) (fun c2 => ?_)
    · replace h := h.1 c2
      refine x_iconst (pc := 22) (-1 : Int32) dX8_sheet_22 (by decide +kernel) ?_
      exact x_ireturn2 (pc := 23) dX8_sheet_23 rfl h.1 h.2
    · replace h := h.2 c2
      refine x_iload_n (pc := 16) 3 dX8_sheet_16 rfl rfl ?_
      refine x_bipush (pc := 17) (24 : Int32) dX8_sheet_17 (by decide +kernel) ?_
      refine x_icmp_le (pc := 19) 24 dX8_sheet_19 (by decide) (fun c3 => ?_) (fun c3 => ?_)
      · replace h := h.1 c3
        refine x_iload_n (pc := 24) 3 dX8_sheet_24 rfl rfl ?_
        refine x_if_ge (pc := 25) 31 dX8_sheet_25 (by decide) (fun c4 => ?_) (fun c4 => ?_)
        · replace h := h.1 c4
          refine x_aload_n (pc := 31) 0 dX8_sheet_31 rfl rfl ?_
          refine x_getR (pc := 32) dX8_sheet_32 fX8_65 rfl rfl ?_
          refine x_iload_n (pc := 35) 1 dX8_sheet_35 rfl rfl ?_
          obtain ⟨g5, q6, e7, hq6, h⟩ := h
          refine x_aaload5 (pc := 36) (n := 4) dX8_sheet_36 rfl g5 e7 ?_
          refine x_iload_n (pc := 37) 2 dX8_sheet_37 rfl rfl ?_
          refine x_iload_n (pc := 38) 3 dX8_sheet_38 rfl rfl ?_
          obtain ⟨s8, hr, h⟩ := h
          refine x_callV (pc := 39) [(.int a2), (.int a3)] [] dX8_sheet_39 ⟨⟨hX4_begin.1, hX4_begin.2.1, hX4_begin.2.2, by decide⟩, mX8_223, vX4_begin.1, vX4_begin.2⟩ (ci := 4) rfl (sh_is hq6) rfl rfl (Nat.le_of_ble_eq_true rfl) hr ?_
          refine x_iload_n (pc := 42) 3 dX8_sheet_42 rfl rfl ?_
          exact x_ireturn2 (pc := 43) dX8_sheet_43 rfl h.1 h.2
        · replace h := h.2 c4
          refine x_bipush (pc := 28) (-14 : Int32) dX8_sheet_28 (by decide +kernel) ?_
          exact x_ireturn2 (pc := 30) dX8_sheet_30 rfl h.1 h.2
      · replace h := h.2 c3
        refine x_iconst (pc := 22) (-1 : Int32) dX8_sheet_22 (by decide +kernel) ?_
        exact x_ireturn2 (pc := 23) dX8_sheet_23 rfl h.1 h.2
theorem dX8_drop_0 : decode cX8_drop 0 = .ok (.iload_n 1, 1) := by decide +kernel
theorem dX8_drop_1 : decode cX8_drop 1 = .ok (.iconst 4, 1) := by decide +kernel
theorem dX8_drop_2 : decode cX8_drop 2 = .ok (.invokestatic 70, 3) := by decide +kernel
theorem dX8_drop_5 : decode cX8_drop 5 = .ok (.ifCond .ne 5, 3) := by decide +kernel
theorem dX8_drop_8 : decode cX8_drop 8 = .ok (.iconst (-1), 1) := by decide +kernel
theorem dX8_drop_9 : decode cX8_drop 9 = .ok (.ireturn, 1) := by decide +kernel
theorem dX8_drop_10 : decode cX8_drop 10 = .ok (.aload_n 0, 1) := by decide +kernel
theorem dX8_drop_11 : decode cX8_drop 11 = .ok (.getfield 65, 3) := by decide +kernel
theorem dX8_drop_14 : decode cX8_drop 14 = .ok (.iload_n 1, 1) := by decide +kernel
theorem dX8_drop_15 : decode cX8_drop 15 = .ok (.aaload, 1) := by decide +kernel
theorem dX8_drop_16 : decode cX8_drop 16 = .ok (.invokevirtual 225, 3) := by decide +kernel
theorem dX8_drop_19 : decode cX8_drop 19 = .ok (.ifCond .ne 6, 3) := by decide +kernel
theorem dX8_drop_22 : decode cX8_drop 22 = .ok (.bipush (-11), 2) := by decide +kernel
theorem dX8_drop_24 : decode cX8_drop 24 = .ok (.ireturn, 1) := by decide +kernel
theorem dX8_drop_25 : decode cX8_drop 25 = .ok (.aload_n 0, 1) := by decide +kernel
theorem dX8_drop_26 : decode cX8_drop 26 = .ok (.getfield 65, 3) := by decide +kernel
theorem dX8_drop_29 : decode cX8_drop 29 = .ok (.iload_n 1, 1) := by decide +kernel
theorem dX8_drop_30 : decode cX8_drop 30 = .ok (.aaload, 1) := by decide +kernel
theorem dX8_drop_31 : decode cX8_drop 31 = .ok (.getfield 226, 3) := by decide +kernel
theorem dX8_drop_34 : decode cX8_drop 34 = .ok (.istore_n 2, 1) := by decide +kernel
theorem dX8_drop_35 : decode cX8_drop 35 = .ok (.aload_n 0, 1) := by decide +kernel
theorem dX8_drop_36 : decode cX8_drop 36 = .ok (.getfield 65, 3) := by decide +kernel
theorem dX8_drop_39 : decode cX8_drop 39 = .ok (.iload_n 1, 1) := by decide +kernel
theorem dX8_drop_40 : decode cX8_drop 40 = .ok (.aaload, 1) := by decide +kernel
theorem dX8_drop_41 : decode cX8_drop 41 = .ok (.invokevirtual 227, 3) := by decide +kernel
theorem dX8_drop_44 : decode cX8_drop 44 = .ok (.iload_n 2, 1) := by decide +kernel
theorem dX8_drop_45 : decode cX8_drop 45 = .ok (.ireturn, 1) := by decide +kernel
def R_X8_drop (a1 : Int32) (σ : kS) (x : Int32) (τ : kS) : Prop := Run SX jX8_drop [(.ref 0), (.int a1)] σ (some (.int x)) τ
set_option maxRecDepth 20000 in
theorem t_X8_drop {a1 : Int32} {σ : kS} {x : Int32} {τ : kS}  (h : ((wn a1 (4 : Int32)) → vp_in a1 4 ∧ ∃ q3 : Nat, k_fd SX 38 a1.toNatClampNeg = some (some q3) ∧ k_sht q3 = true ∧ (((¬ (σ.1 q3 0) = -1) → vp_in a1 4 ∧ ∃ q7 : Nat, k_fd SX 38 a1.toNatClampNeg = some (some q7) ∧ k_sht q7 = true ∧ (vp_in a1 4 ∧ ∃ q10 : Nat, k_fd SX 38 a1.toNatClampNeg = some (some q10) ∧ k_sht q10 = true ∧ (∃ s12 : kS, R_X4_end q10 σ s12 ∧ (x = (σ.1 q7 1) ∧ τ = s12)))) ∧ (¬ (¬ (σ.1 q3 0) = -1) → x = (-11 : Int32) ∧ τ = σ))) ∧ (¬ (wn a1 (4 : Int32)) → x = (-1 : Int32) ∧ τ = σ)) : R_X8_drop a1 σ x τ := by
  refine x_run [some (.ref 0), some (.int a1), none] (by decide +kernel) rfl (Nat.le_of_ble_eq_true rfl) ?_
  refine x_iload_n (pc := 0) 1 dX8_drop_0 rfl rfl ?_
  refine x_iconst (pc := 1) (4 : Int32) dX8_drop_1 (by decide +kernel) ?_
  refine x_callS (pc := 2) [(.int a1), (.int (4 : Int32))] [] dX8_drop_2 ⟨⟨hX8_within.1, hX8_within.2.1, hX8_within.2.2, by decide⟩, mX8_70, sX8_within⟩ rfl rfl (Nat.le_of_ble_eq_true rfl) (i_X8_within) ?_
  refine x_bif_ne (pc := 5) 10 dX8_drop_5 (by decide) (fun c1 => ?_) (fun c1 => ?_)
  · replace h := h.1 c1
    refine x_aload_n (pc := 10) 0 dX8_drop_10 rfl rfl ?_
    refine x_getR (pc := 11) dX8_drop_11 fX8_65 rfl rfl ?_
    refine x_iload_n (pc := 14) 1 dX8_drop_14 rfl rfl ?_
    obtain ⟨g2, q3, e4, hq3, h⟩ := h
    refine x_aaload5 (pc := 15) (n := 4) dX8_drop_15 rfl g2 e4 ?_
    refine x_callV (pc := 16) [] [] dX8_drop_16 ⟨⟨hX4_isThere.1, hX4_isThere.2.1, hX4_isThere.2.2, by decide⟩, mX8_225, vX4_isThere.1, vX4_isThere.2⟩ (ci := 4) rfl (sh_is hq3) rfl rfl (Nat.le_of_ble_eq_true rfl) (i_X4_isThere hq3) ?_
    refine x_bif_ne (pc := 19) 25 dX8_drop_19 (by decide) (fun c5 => ?_) (fun c5 => ?_)
    · replace h := h.1 c5
      refine x_aload_n (pc := 25) 0 dX8_drop_25 rfl rfl ?_
      refine x_getR (pc := 26) dX8_drop_26 fX8_65 rfl rfl ?_
      refine x_iload_n (pc := 29) 1 dX8_drop_29 rfl rfl ?_
      obtain ⟨g6, q7, e8, hq7, h⟩ := h
      refine x_aaload5 (pc := 30) (n := 4) dX8_drop_30 rfl g6 e8 ?_
      refine x_getI (pc := 31) dX8_drop_31 fX8_226 (sh_is hq7) (sh_i1 hq7) ?_
      refine x_istore_n (pc := 34) 2 dX8_drop_34 rfl (by decide) rfl ?_
      refine x_aload_n (pc := 35) 0 dX8_drop_35 rfl rfl ?_
      refine x_getR (pc := 36) dX8_drop_36 fX8_65 rfl rfl ?_
      refine x_iload_n (pc := 39) 1 dX8_drop_39 rfl rfl ?_
      obtain ⟨g9, q10, e11, hq10, h⟩ := h
      refine x_aaload5 (pc := 40) (n := 4) dX8_drop_40 rfl g9 e11 ?_
      obtain ⟨s12, hr, h⟩ := h
      refine x_callV (pc := 41) [] [] dX8_drop_41 ⟨⟨hX4_end.1, hX4_end.2.1, hX4_end.2.2, by decide⟩, mX8_227, vX4_end.1, vX4_end.2⟩ (ci := 4) rfl (sh_is hq10) rfl rfl (Nat.le_of_ble_eq_true rfl) hr ?_
      refine x_iload_n (pc := 44) 2 dX8_drop_44 rfl rfl ?_
      exact x_ireturn2 (pc := 45) dX8_drop_45 rfl h.1 h.2
    · replace h := h.2 c5
      refine x_bipush (pc := 22) (-11 : Int32) dX8_drop_22 (by decide +kernel) ?_
      exact x_ireturn2 (pc := 24) dX8_drop_24 rfl h.1 h.2
  · replace h := h.2 c1
    refine x_iconst (pc := 8) (-1 : Int32) dX8_drop_8 (by decide +kernel) ?_
    exact x_ireturn2 (pc := 9) dX8_drop_9 rfl h.1 h.2
theorem dX8_refusal_0 : decode cX8_refusal 0 = .ok (.iload_n 1, 1) := by decide +kernel
theorem dX8_refusal_1 : decode cX8_refusal 1 = .ok (.iconst 4, 1) := by decide +kernel
theorem dX8_refusal_2 : decode cX8_refusal 2 = .ok (.invokestatic 70, 3) := by decide +kernel
theorem dX8_refusal_5 : decode cX8_refusal 5 = .ok (.ifCond .eq 11, 3) := by decide +kernel
theorem dX8_refusal_8 : decode cX8_refusal 8 = .ok (.iload_n 2, 1) := by decide +kernel
theorem dX8_refusal_9 : decode cX8_refusal 9 = .ok (.iconst 4, 1) := by decide +kernel
theorem dX8_refusal_10 : decode cX8_refusal 10 = .ok (.invokestatic 70, 3) := by decide +kernel
theorem dX8_refusal_13 : decode cX8_refusal 13 = .ok (.ifCond .ne 5, 3) := by decide +kernel
theorem dX8_refusal_16 : decode cX8_refusal 16 = .ok (.iconst (-1), 1) := by decide +kernel
theorem dX8_refusal_17 : decode cX8_refusal 17 = .ok (.ireturn, 1) := by decide +kernel
theorem dX8_refusal_18 : decode cX8_refusal 18 = .ok (.aload_n 0, 1) := by decide +kernel
theorem dX8_refusal_19 : decode cX8_refusal 19 = .ok (.getfield 65, 3) := by decide +kernel
theorem dX8_refusal_22 : decode cX8_refusal 22 = .ok (.iload_n 1, 1) := by decide +kernel
theorem dX8_refusal_23 : decode cX8_refusal 23 = .ok (.aaload, 1) := by decide +kernel
theorem dX8_refusal_24 : decode cX8_refusal 24 = .ok (.invokevirtual 225, 3) := by decide +kernel
theorem dX8_refusal_27 : decode cX8_refusal 27 = .ok (.ifCond .ne 6, 3) := by decide +kernel
theorem dX8_refusal_30 : decode cX8_refusal 30 = .ok (.bipush (-11), 2) := by decide +kernel
theorem dX8_refusal_32 : decode cX8_refusal 32 = .ok (.ireturn, 1) := by decide +kernel
theorem dX8_refusal_33 : decode cX8_refusal 33 = .ok (.aload_n 0, 1) := by decide +kernel
theorem dX8_refusal_34 : decode cX8_refusal 34 = .ok (.getfield 65, 3) := by decide +kernel
theorem dX8_refusal_37 : decode cX8_refusal 37 = .ok (.iload_n 1, 1) := by decide +kernel
theorem dX8_refusal_38 : decode cX8_refusal 38 = .ok (.aaload, 1) := by decide +kernel
theorem dX8_refusal_39 : decode cX8_refusal 39 = .ok (.getfield 241, 3) := by decide +kernel
theorem dX8_refusal_42 : decode cX8_refusal 42 = .ok (.iload_n 2, 1) := by decide +kernel
theorem dX8_refusal_43 : decode cX8_refusal 43 = .ok (.if_icmp .eq 6, 3) := by decide +kernel
theorem dX8_refusal_46 : decode cX8_refusal 46 = .ok (.bipush (-12), 2) := by decide +kernel
theorem dX8_refusal_48 : decode cX8_refusal 48 = .ok (.ireturn, 1) := by decide +kernel
theorem dX8_refusal_49 : decode cX8_refusal 49 = .ok (.aload_n 0, 1) := by decide +kernel
theorem dX8_refusal_50 : decode cX8_refusal 50 = .ok (.getfield 65, 3) := by decide +kernel
theorem dX8_refusal_53 : decode cX8_refusal 53 = .ok (.iload_n 1, 1) := by decide +kernel
theorem dX8_refusal_54 : decode cX8_refusal 54 = .ok (.aaload, 1) := by decide +kernel
theorem dX8_refusal_55 : decode cX8_refusal 55 = .ok (.iload_n 3, 1) := by decide +kernel
theorem dX8_refusal_56 : decode cX8_refusal 56 = .ok (.iload 4, 2) := by decide +kernel
theorem dX8_refusal_58 : decode cX8_refusal 58 = .ok (.invokevirtual 244, 3) := by decide +kernel
theorem dX8_refusal_61 : decode cX8_refusal 61 = .ok (.ifCond .eq 7, 3) := by decide +kernel
theorem dX8_refusal_64 : decode cX8_refusal 64 = .ok (.iconst 0, 1) := by decide +kernel
theorem dX8_refusal_65 : decode cX8_refusal 65 = .ok (.goto 5, 3) := by decide +kernel
theorem dX8_refusal_68 : decode cX8_refusal 68 = .ok (.bipush (-13), 2) := by decide +kernel
theorem dX8_refusal_70 : decode cX8_refusal 70 = .ok (.ireturn, 1) := by decide +kernel
def R_X8_refusal (a1 : Int32) (a2 : Int32) (a3 : Int32) (a4 : Int32) (σ : kS) (x : Int32) (τ : kS) : Prop := Run SX jX8_refusal [(.ref 0), (.int a1), (.int a2), (.int a3), (.int a4)] σ (some (.int x)) τ
set_option maxRecDepth 20000 in
theorem t_X8_refusal {a1 : Int32} {a2 : Int32} {a3 : Int32} {a4 : Int32} {σ : kS} {x : Int32} {τ : kS}  (h : (¬ (wn a1 (4 : Int32)) → x = (-1 : Int32) ∧ τ = σ) ∧ ((wn a1 (4 : Int32)) → ((wn a2 (4 : Int32)) → vp_in a1 4 ∧ ∃ q4 : Nat, k_fd SX 38 a1.toNatClampNeg = some (some q4) ∧ k_sht q4 = true ∧ (((¬ (σ.1 q4 0) = -1) → vp_in a1 4 ∧ ∃ q8 : Nat, k_fd SX 38 a1.toNatClampNeg = some (some q8) ∧ k_sht q8 = true ∧ (((σ.1 q8 0) = a2 → vp_in a1 4 ∧ ∃ q12 : Nat, k_fd SX 38 a1.toNatClampNeg = some (some q12) ∧ k_sht q12 = true ∧ (∃ (x15 : Int32) (s14 : kS), R_X4_holds q12 a3 a4 σ x15 s14 ∧ ((x15 = 0 → x = (-13 : Int32) ∧ τ = s14) ∧ (¬ x15 = 0 → x = (0 : Int32) ∧ τ = s14)))) ∧ (¬ (σ.1 q8 0) = a2 → x = (-12 : Int32) ∧ τ = σ))) ∧ (¬ (¬ (σ.1 q4 0) = -1) → x = (-11 : Int32) ∧ τ = σ))) ∧ (¬ (wn a2 (4 : Int32)) → x = (-1 : Int32) ∧ τ = σ))) : R_X8_refusal a1 a2 a3 a4 σ x τ := by
  refine x_run [some (.ref 0), some (.int a1), some (.int a2), some (.int a3), some (.int a4)] (by decide +kernel) rfl (Nat.le_of_ble_eq_true rfl) ?_
  refine x_iload_n (pc := 0) 1 dX8_refusal_0 rfl rfl ?_
  refine x_iconst (pc := 1) (4 : Int32) dX8_refusal_1 (by decide +kernel) ?_
  refine x_callS (pc := 2) [(.int a1), (.int (4 : Int32))] [] dX8_refusal_2 ⟨⟨hX8_within.1, hX8_within.2.1, hX8_within.2.2, by decide⟩, mX8_70, sX8_within⟩ rfl rfl (Nat.le_of_ble_eq_true rfl) (i_X8_within) ?_
  refine x_bif_eq (pc := 5) 16 dX8_refusal_5 (by decide) (fun c1 => ?_) (fun c1 => ?_)
  · replace h := h.1 c1
    refine x_iconst (pc := 16) (-1 : Int32) dX8_refusal_16 (by decide +kernel) ?_
    exact x_ireturn2 (pc := 17) dX8_refusal_17 rfl h.1 h.2
  · replace h := h.2 c1
    refine x_iload_n (pc := 8) 2 dX8_refusal_8 rfl rfl ?_
    refine x_iconst (pc := 9) (4 : Int32) dX8_refusal_9 (by decide +kernel) ?_
    refine x_callS (pc := 10) [(.int a2), (.int (4 : Int32))] [] dX8_refusal_10 ⟨⟨hX8_within.1, hX8_within.2.1, hX8_within.2.2, by decide⟩, mX8_70, sX8_within⟩ rfl rfl (Nat.le_of_ble_eq_true rfl) (i_X8_within) ?_
    refine x_bif_ne (pc := 13) 18 dX8_refusal_13 (by decide) (fun c2 => ?_) (fun c2 => ?_)
    · replace h := h.1 c2
      refine x_aload_n (pc := 18) 0 dX8_refusal_18 rfl rfl ?_
      refine x_getR (pc := 19) dX8_refusal_19 fX8_65 rfl rfl ?_
      refine x_iload_n (pc := 22) 1 dX8_refusal_22 rfl rfl ?_
      obtain ⟨g3, q4, e5, hq4, h⟩ := h
      refine x_aaload5 (pc := 23) (n := 4) dX8_refusal_23 rfl g3 e5 ?_
      refine x_callV (pc := 24) [] [] dX8_refusal_24 ⟨⟨hX4_isThere.1, hX4_isThere.2.1, hX4_isThere.2.2, by decide⟩, mX8_225, vX4_isThere.1, vX4_isThere.2⟩ (ci := 4) rfl (sh_is hq4) rfl rfl (Nat.le_of_ble_eq_true rfl) (i_X4_isThere hq4) ?_
      refine x_bif_ne (pc := 27) 33 dX8_refusal_27 (by decide) (fun c6 => ?_) (fun c6 => ?_)
      · replace h := h.1 c6
        refine x_aload_n (pc := 33) 0 dX8_refusal_33 rfl rfl ?_
        refine x_getR (pc := 34) dX8_refusal_34 fX8_65 rfl rfl ?_
        refine x_iload_n (pc := 37) 1 dX8_refusal_37 rfl rfl ?_
        obtain ⟨g7, q8, e9, hq8, h⟩ := h
        refine x_aaload5 (pc := 38) (n := 4) dX8_refusal_38 rfl g7 e9 ?_
        refine x_getI (pc := 39) dX8_refusal_39 fX8_241 (sh_is hq8) (sh_i0 hq8) ?_
        refine x_iload_n (pc := 42) 2 dX8_refusal_42 rfl rfl ?_
        refine x_icmp_eq (pc := 43) 49 dX8_refusal_43 (by decide) (fun c10 => ?_) (fun c10 => ?_)
        · replace h := h.1 c10
          refine x_aload_n (pc := 49) 0 dX8_refusal_49 rfl rfl ?_
          refine x_getR (pc := 50) dX8_refusal_50 fX8_65 rfl rfl ?_
          refine x_iload_n (pc := 53) 1 dX8_refusal_53 rfl rfl ?_
          obtain ⟨g11, q12, e13, hq12, h⟩ := h
          refine x_aaload5 (pc := 54) (n := 4) dX8_refusal_54 rfl g11 e13 ?_
          refine x_iload_n (pc := 55) 3 dX8_refusal_55 rfl rfl ?_
          refine x_iload (pc := 56) dX8_refusal_56 rfl ?_
          obtain ⟨x15, s14, hr, h⟩ := h
          refine x_callV (pc := 58) [(.int a3), (.int a4)] [] dX8_refusal_58 ⟨⟨hX4_holds.1, hX4_holds.2.1, hX4_holds.2.2, by decide⟩, mX8_244, vX4_holds.1, vX4_holds.2⟩ (ci := 4) rfl (sh_is hq12) rfl rfl (Nat.le_of_ble_eq_true rfl) hr ?_
          refine x_if_eq (pc := 61) 68 dX8_refusal_61 (by decide) (fun c16 => ?_) (fun c16 => ?_)
          · replace h := h.1 c16
            refine x_bipush (pc := 68) (-13 : Int32) dX8_refusal_68 (by decide +kernel) ?_
            exact x_ireturn2 (pc := 70) dX8_refusal_70 rfl h.1 h.2
          · replace h := h.2 c16
            refine x_iconst (pc := 64) (0 : Int32) dX8_refusal_64 (by decide +kernel) ?_
            refine x_goto (pc := 65) 70 dX8_refusal_65 (by decide) ?_
            exact x_ireturn2 (pc := 70) dX8_refusal_70 rfl h.1 h.2
        · replace h := h.2 c10
          refine x_bipush (pc := 46) (-12 : Int32) dX8_refusal_46 (by decide +kernel) ?_
          exact x_ireturn2 (pc := 48) dX8_refusal_48 rfl h.1 h.2
      · replace h := h.2 c6
        refine x_bipush (pc := 30) (-11 : Int32) dX8_refusal_30 (by decide +kernel) ?_
        exact x_ireturn2 (pc := 32) dX8_refusal_32 rfl h.1 h.2
    · replace h := h.2 c2
      refine x_iconst (pc := 16) (-1 : Int32) dX8_refusal_16 (by decide +kernel) ?_
      exact x_ireturn2 (pc := 17) dX8_refusal_17 rfl h.1 h.2
theorem dX8_item_0 : decode cX8_item 0 = .ok (.aload_n 0, 1) := by decide +kernel
theorem dX8_item_1 : decode cX8_item 1 = .ok (.iload_n 1, 1) := by decide +kernel
theorem dX8_item_2 : decode cX8_item 2 = .ok (.iload_n 2, 1) := by decide +kernel
theorem dX8_item_3 : decode cX8_item 3 = .ok (.iload_n 3, 1) := by decide +kernel
theorem dX8_item_4 : decode cX8_item 4 = .ok (.iconst 1, 1) := by decide +kernel
theorem dX8_item_5 : decode cX8_item 5 = .ok (.invokevirtual 230, 3) := by decide +kernel
theorem dX8_item_8 : decode cX8_item 8 = .ok (.istore 6, 2) := by decide +kernel
theorem dX8_item_10 : decode cX8_item 10 = .ok (.iload 6, 2) := by decide +kernel
theorem dX8_item_12 : decode cX8_item 12 = .ok (.ifCond .eq 7, 3) := by decide +kernel
theorem dX8_item_15 : decode cX8_item 15 = .ok (.iload 6, 2) := by decide +kernel
theorem dX8_item_17 : decode cX8_item 17 = .ok (.i2l, 1) := by decide +kernel
theorem dX8_item_18 : decode cX8_item 18 = .ok (.lreturn, 1) := by decide +kernel
theorem dX8_item_19 : decode cX8_item 19 = .ok (.aload_n 0, 1) := by decide +kernel
theorem dX8_item_20 : decode cX8_item 20 = .ok (.getfield 65, 3) := by decide +kernel
theorem dX8_item_23 : decode cX8_item 23 = .ok (.iload_n 1, 1) := by decide +kernel
theorem dX8_item_24 : decode cX8_item 24 = .ok (.aaload, 1) := by decide +kernel
theorem dX8_item_25 : decode cX8_item 25 = .ok (.iload_n 3, 1) := by decide +kernel
theorem dX8_item_26 : decode cX8_item 26 = .ok (.lload 4, 2) := by decide +kernel
theorem dX8_item_28 : decode cX8_item 28 = .ok (.invokevirtual 234, 3) := by decide +kernel
theorem dX8_item_31 : decode cX8_item 31 = .ok (.aload_n 0, 1) := by decide +kernel
theorem dX8_item_32 : decode cX8_item 32 = .ok (.getfield 65, 3) := by decide +kernel
theorem dX8_item_35 : decode cX8_item 35 = .ok (.iload_n 1, 1) := by decide +kernel
theorem dX8_item_36 : decode cX8_item 36 = .ok (.aaload, 1) := by decide +kernel
theorem dX8_item_37 : decode cX8_item 37 = .ok (.getfield 237, 3) := by decide +kernel
theorem dX8_item_40 : decode cX8_item 40 = .ok (.iload_n 3, 1) := by decide +kernel
theorem dX8_item_41 : decode cX8_item 41 = .ok (.laload, 1) := by decide +kernel
theorem dX8_item_42 : decode cX8_item 42 = .ok (.lreturn, 1) := by decide +kernel
def R_X8_item (a1 : Int32) (a2 : Int32) (a3 : Int32) (a4 : Int64) (σ : kS) (x : Int64) (τ : kS) : Prop := Run SX jX8_item [(.ref 0), (.int a1), (.int a2), (.int a3), (.long a4)] σ (some (.long x)) τ
set_option maxRecDepth 20000 in
theorem t_X8_item {a1 : Int32} {a2 : Int32} {a3 : Int32} {a4 : Int64} {σ : kS} {x : Int64} {τ : kS}  (h : ∃ (x2 : Int32) (s1 : kS), R_X8_refusal a1 a2 a3 (1 : Int32) σ x2 s1 ∧ ((x2 = 0 → vp_in a1 4 ∧ ∃ q5 : Nat, k_fd SX 38 a1.toNatClampNeg = some (some q5) ∧ k_sht q5 = true ∧ (∃ s7 : kS, R_X4_put q5 a3 a4 s1 s7 ∧ (vp_in a1 4 ∧ ∃ q9 : Nat, k_fd SX 38 a1.toNatClampNeg = some (some q9) ∧ k_sht q9 = true ∧ (vp_in a3 24 ∧ (x = (s7.2 (q9 + 1) a3.toNatClampNeg) ∧ τ = s7))))) ∧ (¬ x2 = 0 → x = x2.toInt64 ∧ τ = s1))) : R_X8_item a1 a2 a3 a4 σ x τ := by
  refine x_run [some (.ref 0), some (.int a1), some (.int a2), some (.int a3), some (.long a4), none, none] (by decide +kernel) rfl (Nat.le_of_ble_eq_true rfl) ?_
  refine x_aload_n (pc := 0) 0 dX8_item_0 rfl rfl ?_
  refine x_iload_n (pc := 1) 1 dX8_item_1 rfl rfl ?_
  refine x_iload_n (pc := 2) 2 dX8_item_2 rfl rfl ?_
  refine x_iload_n (pc := 3) 3 dX8_item_3 rfl rfl ?_
  refine x_iconst (pc := 4) (1 : Int32) dX8_item_4 (by decide +kernel) ?_
  obtain ⟨x2, s1, hr, h⟩ := h
  refine x_callV (pc := 5) [(.int a1), (.int a2), (.int a3), (.int (1 : Int32))] [] dX8_item_5 ⟨⟨hX8_refusal.1, hX8_refusal.2.1, hX8_refusal.2.2, by decide⟩, mX8_230, vX8_refusal.1, vX8_refusal.2⟩ (ci := 8) rfl rfl rfl rfl (Nat.le_of_ble_eq_true rfl) hr ?_
  refine x_istore (pc := 8) dX8_item_8 (by decide) rfl ?_
  refine x_iload (pc := 10) dX8_item_10 rfl ?_
  refine x_if_eq (pc := 12) 19 dX8_item_12 (by decide) (fun c3 => ?_) (fun c3 => ?_)
  · replace h := h.1 c3
    refine x_aload_n (pc := 19) 0 dX8_item_19 rfl rfl ?_
    refine x_getR (pc := 20) dX8_item_20 fX8_65 rfl rfl ?_
    refine x_iload_n (pc := 23) 1 dX8_item_23 rfl rfl ?_
    obtain ⟨g4, q5, e6, hq5, h⟩ := h
    refine x_aaload5 (pc := 24) (n := 4) dX8_item_24 rfl g4 e6 ?_
    refine x_iload_n (pc := 25) 3 dX8_item_25 rfl rfl ?_
    refine x_lload (pc := 26) dX8_item_26 rfl ?_
    obtain ⟨s7, hr, h⟩ := h
    refine x_callV (pc := 28) [(.int a3), (.long a4)] [] dX8_item_28 ⟨⟨hX4_put.1, hX4_put.2.1, hX4_put.2.2, by decide⟩, mX8_234, vX4_put.1, vX4_put.2⟩ (ci := 4) rfl (sh_is hq5) rfl rfl (Nat.le_of_ble_eq_true rfl) hr ?_
    refine x_aload_n (pc := 31) 0 dX8_item_31 rfl rfl ?_
    refine x_getR (pc := 32) dX8_item_32 fX8_65 rfl rfl ?_
    refine x_iload_n (pc := 35) 1 dX8_item_35 rfl rfl ?_
    obtain ⟨g8, q9, e10, hq9, h⟩ := h
    refine x_aaload5 (pc := 36) (n := 4) dX8_item_36 rfl g8 e10 ?_
    refine x_getR (pc := 37) dX8_item_37 fX8_237 (sh_is hq9) (sh_r hq9) ?_
    refine x_iload_n (pc := 40) 3 dX8_item_40 rfl rfl ?_
    obtain ⟨g11, h⟩ := h
    refine x_laload (pc := 41) (n := 24) dX8_item_41 (sh_a hq9) g11 ?_
    exact x_lreturn2 (pc := 42) dX8_item_42 rfl h.1 h.2
  · replace h := h.2 c3
    refine x_iload (pc := 15) dX8_item_15 rfl ?_
    refine x_i2l (pc := 17) dX8_item_17 ?_
    exact x_lreturn2 (pc := 18) dX8_item_18 rfl h.1 h.2
theorem dX8_copy_0 : decode cX8_copy 0 = .ok (.iload_n 1, 1) := by decide +kernel
theorem dX8_copy_1 : decode cX8_copy 1 = .ok (.iconst 4, 1) := by decide +kernel
theorem dX8_copy_2 : decode cX8_copy 2 = .ok (.invokestatic 70, 3) := by decide +kernel
theorem dX8_copy_5 : decode cX8_copy 5 = .ok (.ifCond .eq 11, 3) := by decide +kernel
theorem dX8_copy_8 : decode cX8_copy 8 = .ok (.iload_n 3, 1) := by decide +kernel
theorem dX8_copy_9 : decode cX8_copy 9 = .ok (.iconst 4, 1) := by decide +kernel
theorem dX8_copy_10 : decode cX8_copy 10 = .ok (.invokestatic 70, 3) := by decide +kernel
theorem dX8_copy_13 : decode cX8_copy 13 = .ok (.ifCond .ne 5, 3) := by decide +kernel
theorem dX8_copy_16 : decode cX8_copy 16 = .ok (.iconst (-1), 1) := by decide +kernel
theorem dX8_copy_17 : decode cX8_copy 17 = .ok (.ireturn, 1) := by decide +kernel
theorem dX8_copy_18 : decode cX8_copy 18 = .ok (.aload_n 0, 1) := by decide +kernel
theorem dX8_copy_19 : decode cX8_copy 19 = .ok (.getfield 65, 3) := by decide +kernel
theorem dX8_copy_22 : decode cX8_copy 22 = .ok (.iload_n 1, 1) := by decide +kernel
theorem dX8_copy_23 : decode cX8_copy 23 = .ok (.aaload, 1) := by decide +kernel
theorem dX8_copy_24 : decode cX8_copy 24 = .ok (.astore 6, 2) := by decide +kernel
theorem dX8_copy_26 : decode cX8_copy 26 = .ok (.aload_n 0, 1) := by decide +kernel
theorem dX8_copy_27 : decode cX8_copy 27 = .ok (.getfield 65, 3) := by decide +kernel
theorem dX8_copy_30 : decode cX8_copy 30 = .ok (.iload_n 3, 1) := by decide +kernel
theorem dX8_copy_31 : decode cX8_copy 31 = .ok (.aaload, 1) := by decide +kernel
theorem dX8_copy_32 : decode cX8_copy 32 = .ok (.astore 7, 2) := by decide +kernel
theorem dX8_copy_34 : decode cX8_copy 34 = .ok (.aload 6, 2) := by decide +kernel
theorem dX8_copy_36 : decode cX8_copy 36 = .ok (.invokevirtual 225, 3) := by decide +kernel
theorem dX8_copy_39 : decode cX8_copy 39 = .ok (.ifCond .eq 11, 3) := by decide +kernel
theorem dX8_copy_42 : decode cX8_copy 42 = .ok (.aload 7, 2) := by decide +kernel
theorem dX8_copy_44 : decode cX8_copy 44 = .ok (.invokevirtual 225, 3) := by decide +kernel
theorem dX8_copy_47 : decode cX8_copy 47 = .ok (.ifCond .ne 6, 3) := by decide +kernel
theorem dX8_copy_50 : decode cX8_copy 50 = .ok (.bipush (-11), 2) := by decide +kernel
theorem dX8_copy_52 : decode cX8_copy 52 = .ok (.ireturn, 1) := by decide +kernel
theorem dX8_copy_53 : decode cX8_copy 53 = .ok (.aload 6, 2) := by decide +kernel
theorem dX8_copy_55 : decode cX8_copy 55 = .ok (.getfield 241, 3) := by decide +kernel
theorem dX8_copy_58 : decode cX8_copy 58 = .ok (.aload 7, 2) := by decide +kernel
theorem dX8_copy_60 : decode cX8_copy 60 = .ok (.getfield 241, 3) := by decide +kernel
theorem dX8_copy_63 : decode cX8_copy 63 = .ok (.if_icmp .eq 6, 3) := by decide +kernel
theorem dX8_copy_66 : decode cX8_copy 66 = .ok (.bipush (-12), 2) := by decide +kernel
theorem dX8_copy_68 : decode cX8_copy 68 = .ok (.ireturn, 1) := by decide +kernel
theorem dX8_copy_69 : decode cX8_copy 69 = .ok (.aload 6, 2) := by decide +kernel
theorem dX8_copy_71 : decode cX8_copy 71 = .ok (.iload_n 2, 1) := by decide +kernel
theorem dX8_copy_72 : decode cX8_copy 72 = .ok (.iload 5, 2) := by decide +kernel
theorem dX8_copy_74 : decode cX8_copy 74 = .ok (.invokevirtual 244, 3) := by decide +kernel
theorem dX8_copy_77 : decode cX8_copy 77 = .ok (.ifCond .eq 15, 3) := by decide +kernel
theorem dX8_copy_80 : decode cX8_copy 80 = .ok (.aload 7, 2) := by decide +kernel
theorem dX8_copy_82 : decode cX8_copy 82 = .ok (.iload 4, 2) := by decide +kernel
theorem dX8_copy_84 : decode cX8_copy 84 = .ok (.iload 5, 2) := by decide +kernel
theorem dX8_copy_86 : decode cX8_copy 86 = .ok (.invokevirtual 244, 3) := by decide +kernel
theorem dX8_copy_89 : decode cX8_copy 89 = .ok (.ifCond .ne 6, 3) := by decide +kernel
theorem dX8_copy_92 : decode cX8_copy 92 = .ok (.bipush (-13), 2) := by decide +kernel
theorem dX8_copy_94 : decode cX8_copy 94 = .ok (.ireturn, 1) := by decide +kernel
theorem dX8_copy_95 : decode cX8_copy 95 = .ok (.aload 6, 2) := by decide +kernel
theorem dX8_copy_97 : decode cX8_copy 97 = .ok (.getfield 237, 3) := by decide +kernel
theorem dX8_copy_100 : decode cX8_copy 100 = .ok (.iload_n 2, 1) := by decide +kernel
theorem dX8_copy_101 : decode cX8_copy 101 = .ok (.aload 7, 2) := by decide +kernel
theorem dX8_copy_103 : decode cX8_copy 103 = .ok (.getfield 237, 3) := by decide +kernel
theorem dX8_copy_106 : decode cX8_copy 106 = .ok (.iload 4, 2) := by decide +kernel
theorem dX8_copy_108 : decode cX8_copy 108 = .ok (.iload 5, 2) := by decide +kernel
theorem dX8_copy_110 : decode cX8_copy 110 = .ok (.invokestatic 247, 3) := by decide +kernel
theorem dX8_copy_113 : decode cX8_copy 113 = .ok (.iload 5, 2) := by decide +kernel
theorem dX8_copy_115 : decode cX8_copy 115 = .ok (.ireturn, 1) := by decide +kernel
def R_X8_copy (a1 : Int32) (a2 : Int32) (a3 : Int32) (a4 : Int32) (a5 : Int32) (σ : kS) (x : Int32) (τ : kS) : Prop := Run SX jX8_copy [(.ref 0), (.int a1), (.int a2), (.int a3), (.int a4), (.int a5)] σ (some (.int x)) τ
set_option maxRecDepth 20000 in
theorem t_X8_copy {a1 : Int32} {a2 : Int32} {a3 : Int32} {a4 : Int32} {a5 : Int32} {σ : kS} {x : Int32} {τ : kS}  (h : (¬ (wn a1 (4 : Int32)) → x = (-1 : Int32) ∧ τ = σ) ∧ ((wn a1 (4 : Int32)) → ((wn a3 (4 : Int32)) → vp_in a1 4 ∧ ∃ q4 : Nat, k_fd SX 38 a1.toNatClampNeg = some (some q4) ∧ k_sht q4 = true ∧ (vp_in a3 4 ∧ ∃ q7 : Nat, k_fd SX 38 a3.toNatClampNeg = some (some q7) ∧ k_sht q7 = true ∧ ((¬ (¬ (σ.1 q4 0) = -1) → x = (-11 : Int32) ∧ τ = σ) ∧ ((¬ (σ.1 q4 0) = -1) → ((¬ (σ.1 q7 0) = -1) → ((σ.1 q4 0) = (σ.1 q7 0) → ∃ (x13 : Int32) (s12 : kS), R_X4_holds q4 a2 a5 σ x13 s12 ∧ ((x13 = 0 → x = (-13 : Int32) ∧ τ = s12) ∧ (¬ x13 = 0 → ∃ (x16 : Int32) (s15 : kS), R_X4_holds q7 a4 a5 s12 x16 s15 ∧ ((¬ x16 = 0 → (¬ a2 < 0 ∧ ¬ a4 < 0 ∧ ¬ a5 < 0 ∧ a2.toNatClampNeg + a5.toNatClampNeg ≤ 24 ∧ a4.toNatClampNeg + a5.toNatClampNeg ≤ 24) ∧ (x = a5 ∧ τ = (k_cl s15 (q4 + 1) (q7 + 1) a2.toNatClampNeg a4.toNatClampNeg a5.toNatClampNeg))) ∧ (x16 = 0 → x = (-13 : Int32) ∧ τ = s15))))) ∧ (¬ (σ.1 q4 0) = (σ.1 q7 0) → x = (-12 : Int32) ∧ τ = σ)) ∧ (¬ (¬ (σ.1 q7 0) = -1) → x = (-11 : Int32) ∧ τ = σ))))) ∧ (¬ (wn a3 (4 : Int32)) → x = (-1 : Int32) ∧ τ = σ))) : R_X8_copy a1 a2 a3 a4 a5 σ x τ := by
  refine x_run [some (.ref 0), some (.int a1), some (.int a2), some (.int a3), some (.int a4), some (.int a5), none, none] (by decide +kernel) rfl (Nat.le_of_ble_eq_true rfl) ?_
  refine x_iload_n (pc := 0) 1 dX8_copy_0 rfl rfl ?_
  refine x_iconst (pc := 1) (4 : Int32) dX8_copy_1 (by decide +kernel) ?_
  refine x_callS (pc := 2) [(.int a1), (.int (4 : Int32))] [] dX8_copy_2 ⟨⟨hX8_within.1, hX8_within.2.1, hX8_within.2.2, by decide⟩, mX8_70, sX8_within⟩ rfl rfl (Nat.le_of_ble_eq_true rfl) (i_X8_within) ?_
  refine x_bif_eq (pc := 5) 16 dX8_copy_5 (by decide) (fun c1 => ?_) (fun c1 => ?_)
  · replace h := h.1 c1
    refine x_iconst (pc := 16) (-1 : Int32) dX8_copy_16 (by decide +kernel) ?_
    exact x_ireturn2 (pc := 17) dX8_copy_17 rfl h.1 h.2
  · replace h := h.2 c1
    refine x_iload_n (pc := 8) 3 dX8_copy_8 rfl rfl ?_
    refine x_iconst (pc := 9) (4 : Int32) dX8_copy_9 (by decide +kernel) ?_
    refine x_callS (pc := 10) [(.int a3), (.int (4 : Int32))] [] dX8_copy_10 ⟨⟨hX8_within.1, hX8_within.2.1, hX8_within.2.2, by decide⟩, mX8_70, sX8_within⟩ rfl rfl (Nat.le_of_ble_eq_true rfl) (i_X8_within) ?_
    refine x_bif_ne (pc := 13) 18 dX8_copy_13 (by decide) (fun c2 => ?_) (fun c2 => ?_)
    · replace h := h.1 c2
      refine x_aload_n (pc := 18) 0 dX8_copy_18 rfl rfl ?_
      refine x_getR (pc := 19) dX8_copy_19 fX8_65 rfl rfl ?_
      refine x_iload_n (pc := 22) 1 dX8_copy_22 rfl rfl ?_
      obtain ⟨g3, q4, e5, hq4, h⟩ := h
      refine x_aaload5 (pc := 23) (n := 4) dX8_copy_23 rfl g3 e5 ?_
      refine x_astore (pc := 24) dX8_copy_24 (by decide) rfl ?_
      refine x_aload_n (pc := 26) 0 dX8_copy_26 rfl rfl ?_
      refine x_getR (pc := 27) dX8_copy_27 fX8_65 rfl rfl ?_
      refine x_iload_n (pc := 30) 3 dX8_copy_30 rfl rfl ?_
      obtain ⟨g6, q7, e8, hq7, h⟩ := h
      refine x_aaload5 (pc := 31) (n := 4) dX8_copy_31 rfl g6 e8 ?_
      refine x_astore (pc := 32) dX8_copy_32 (by decide) rfl ?_
      refine x_aload (pc := 34) dX8_copy_34 rfl ?_
      refine x_callV (pc := 36) [] [] dX8_copy_36 ⟨⟨hX4_isThere.1, hX4_isThere.2.1, hX4_isThere.2.2, by decide⟩, mX8_225, vX4_isThere.1, vX4_isThere.2⟩ (ci := 4) rfl (sh_is hq4) rfl rfl (Nat.le_of_ble_eq_true rfl) (i_X4_isThere hq4) ?_
      refine x_bif_eq (pc := 39) 50 dX8_copy_39 (by decide) (fun c9 => ?_) (fun c9 => ?_)
      · replace h := h.1 c9
        refine x_bipush (pc := 50) (-11 : Int32) dX8_copy_50 (by decide +kernel) ?_
        exact x_ireturn2 (pc := 52) dX8_copy_52 rfl h.1 h.2
      · replace h := h.2 c9
        refine x_aload (pc := 42) dX8_copy_42 rfl ?_
        refine x_callV (pc := 44) [] [] dX8_copy_44 ⟨⟨hX4_isThere.1, hX4_isThere.2.1, hX4_isThere.2.2, by decide⟩, mX8_225, vX4_isThere.1, vX4_isThere.2⟩ (ci := 4) rfl (sh_is hq7) rfl rfl (Nat.le_of_ble_eq_true rfl) (i_X4_isThere hq7) ?_
        refine x_bif_ne (pc := 47) 53 dX8_copy_47 (by decide) (fun c10 => ?_) (fun c10 => ?_)
        · replace h := h.1 c10
          refine x_aload (pc := 53) dX8_copy_53 rfl ?_
          refine x_getI (pc := 55) dX8_copy_55 fX8_241 (sh_is hq4) (sh_i0 hq4) ?_
          refine x_aload (pc := 58) dX8_copy_58 rfl ?_
          refine x_getI (pc := 60) dX8_copy_60 fX8_241 (sh_is hq7) (sh_i0 hq7) ?_
          refine x_icmp_eq (pc := 63) 69 dX8_copy_63 (by decide) (fun c11 => ?_) (fun c11 => ?_)
          · replace h := h.1 c11
            refine x_aload (pc := 69) dX8_copy_69 rfl ?_
            refine x_iload_n (pc := 71) 2 dX8_copy_71 rfl rfl ?_
            refine x_iload (pc := 72) dX8_copy_72 rfl ?_
            obtain ⟨x13, s12, hr, h⟩ := h
            refine x_callV (pc := 74) [(.int a2), (.int a5)] [] dX8_copy_74 ⟨⟨hX4_holds.1, hX4_holds.2.1, hX4_holds.2.2, by decide⟩, mX8_244, vX4_holds.1, vX4_holds.2⟩ (ci := 4) rfl (sh_is hq4) rfl rfl (Nat.le_of_ble_eq_true rfl) hr ?_
            refine x_if_eq (pc := 77) 92 dX8_copy_77 (by decide) (fun c14 => ?_) (fun c14 => ?_)
            · replace h := h.1 c14
              refine x_bipush (pc := 92) (-13 : Int32) dX8_copy_92 (by decide +kernel) ?_
              exact x_ireturn2 (pc := 94) dX8_copy_94 rfl h.1 h.2
            · replace h := h.2 c14
              refine x_aload (pc := 80) dX8_copy_80 rfl ?_
              refine x_iload (pc := 82) dX8_copy_82 rfl ?_
              refine x_iload (pc := 84) dX8_copy_84 rfl ?_
              obtain ⟨x16, s15, hr, h⟩ := h
              refine x_callV (pc := 86) [(.int a4), (.int a5)] [] dX8_copy_86 ⟨⟨hX4_holds.1, hX4_holds.2.1, hX4_holds.2.2, by decide⟩, mX8_244, vX4_holds.1, vX4_holds.2⟩ (ci := 4) rfl (sh_is hq7) rfl rfl (Nat.le_of_ble_eq_true rfl) hr ?_
              refine x_if_ne (pc := 89) 95 dX8_copy_89 (by decide) (fun c17 => ?_) (fun c17 => ?_)
              · replace h := h.1 c17
                refine x_aload (pc := 95) dX8_copy_95 rfl ?_
                refine x_getR (pc := 97) dX8_copy_97 fX8_237 (sh_is hq4) (sh_r hq4) ?_
                refine x_iload_n (pc := 100) 2 dX8_copy_100 rfl rfl ?_
                refine x_aload (pc := 101) dX8_copy_101 rfl ?_
                refine x_getR (pc := 103) dX8_copy_103 fX8_237 (sh_is hq7) (sh_r hq7) ?_
                refine x_iload (pc := 106) dX8_copy_106 rfl ?_
                refine x_iload (pc := 108) dX8_copy_108 rfl ?_
                obtain ⟨g18, h⟩ := h
                refine x_copyl (pc := 110) (n0 := 24) (n1 := 24) dX8_copy_110 acX8_247 (sh_a hq4) (sh_a hq7) g18 (by decide +kernel) ?_
                refine x_iload (pc := 113) dX8_copy_113 rfl ?_
                exact x_ireturn2 (pc := 115) dX8_copy_115 rfl h.1 h.2
              · replace h := h.2 c17
                refine x_bipush (pc := 92) (-13 : Int32) dX8_copy_92 (by decide +kernel) ?_
                exact x_ireturn2 (pc := 94) dX8_copy_94 rfl h.1 h.2
          · replace h := h.2 c11
            refine x_bipush (pc := 66) (-12 : Int32) dX8_copy_66 (by decide +kernel) ?_
            exact x_ireturn2 (pc := 68) dX8_copy_68 rfl h.1 h.2
        · replace h := h.2 c10
          refine x_bipush (pc := 50) (-11 : Int32) dX8_copy_50 (by decide +kernel) ?_
          exact x_ireturn2 (pc := 52) dX8_copy_52 rfl h.1 h.2
    · replace h := h.2 c2
      refine x_iconst (pc := 16) (-1 : Int32) dX8_copy_16 (by decide +kernel) ?_
      exact x_ireturn2 (pc := 17) dX8_copy_17 rfl h.1 h.2
theorem dX8_log_0 : decode cX8_log 0 = .ok (.aload_n 0, 1) := by decide +kernel
theorem dX8_log_1 : decode cX8_log 1 = .ok (.getfield 19, 3) := by decide +kernel
theorem dX8_log_4 : decode cX8_log 4 = .ok (.invokevirtual 143, 3) := by decide +kernel
theorem dX8_log_7 : decode cX8_log 7 = .ok (.ifCond .ne 5, 3) := by decide +kernel
theorem dX8_log_10 : decode cX8_log 10 = .ok (.iconst (-1), 1) := by decide +kernel
theorem dX8_log_11 : decode cX8_log 11 = .ok (.ireturn, 1) := by decide +kernel
theorem dX8_log_12 : decode cX8_log 12 = .ok (.aload_n 0, 1) := by decide +kernel
theorem dX8_log_13 : decode cX8_log 13 = .ok (.iload_n 1, 1) := by decide +kernel
theorem dX8_log_14 : decode cX8_log 14 = .ok (.iload_n 2, 1) := by decide +kernel
theorem dX8_log_15 : decode cX8_log 15 = .ok (.iload_n 3, 1) := by decide +kernel
theorem dX8_log_16 : decode cX8_log 16 = .ok (.aload_n 0, 1) := by decide +kernel
theorem dX8_log_17 : decode cX8_log 17 = .ok (.getfield 19, 3) := by decide +kernel
theorem dX8_log_20 : decode cX8_log 20 = .ok (.getfield 93, 3) := by decide +kernel
theorem dX8_log_23 : decode cX8_log 23 = .ok (.invokevirtual 230, 3) := by decide +kernel
theorem dX8_log_26 : decode cX8_log 26 = .ok (.istore 4, 2) := by decide +kernel
theorem dX8_log_28 : decode cX8_log 28 = .ok (.iload 4, 2) := by decide +kernel
theorem dX8_log_30 : decode cX8_log 30 = .ok (.ifCond .eq 6, 3) := by decide +kernel
theorem dX8_log_33 : decode cX8_log 33 = .ok (.iload 4, 2) := by decide +kernel
theorem dX8_log_35 : decode cX8_log 35 = .ok (.ireturn, 1) := by decide +kernel
theorem dX8_log_36 : decode cX8_log 36 = .ok (.aload_n 0, 1) := by decide +kernel
theorem dX8_log_37 : decode cX8_log 37 = .ok (.getfield 40, 3) := by decide +kernel
theorem dX8_log_40 : decode cX8_log 40 = .ok (.aload_n 0, 1) := by decide +kernel
theorem dX8_log_41 : decode cX8_log 41 = .ok (.getfield 19, 3) := by decide +kernel
theorem dX8_log_44 : decode cX8_log 44 = .ok (.invokevirtual 173, 3) := by decide +kernel
theorem dX8_log_47 : decode cX8_log 47 = .ok (.pop, 1) := by decide +kernel
theorem dX8_log_48 : decode cX8_log 48 = .ok (.iconst 0, 1) := by decide +kernel
theorem dX8_log_49 : decode cX8_log 49 = .ok (.istore 5, 2) := by decide +kernel
theorem dX8_log_51 : decode cX8_log 51 = .ok (.iload 5, 2) := by decide +kernel
theorem dX8_log_53 : decode cX8_log 53 = .ok (.aload_n 0, 1) := by decide +kernel
theorem dX8_log_54 : decode cX8_log 54 = .ok (.getfield 19, 3) := by decide +kernel
theorem dX8_log_57 : decode cX8_log 57 = .ok (.getfield 93, 3) := by decide +kernel
theorem dX8_log_60 : decode cX8_log 60 = .ok (.if_icmp .ge 33, 3) := by decide +kernel
theorem dX8_log_63 : decode cX8_log 63 = .ok (.aload_n 0, 1) := by decide +kernel
theorem dX8_log_64 : decode cX8_log 64 = .ok (.getfield 65, 3) := by decide +kernel
theorem dX8_log_67 : decode cX8_log 67 = .ok (.iload_n 1, 1) := by decide +kernel
theorem dX8_log_68 : decode cX8_log 68 = .ok (.aaload, 1) := by decide +kernel
theorem dX8_log_69 : decode cX8_log 69 = .ok (.iload_n 3, 1) := by decide +kernel
theorem dX8_log_70 : decode cX8_log 70 = .ok (.iload 5, 2) := by decide +kernel
theorem dX8_log_72 : decode cX8_log 72 = .ok (.iadd, 1) := by decide +kernel
theorem dX8_log_73 : decode cX8_log 73 = .ok (.aload_n 0, 1) := by decide +kernel
theorem dX8_log_74 : decode cX8_log 74 = .ok (.getfield 40, 3) := by decide +kernel
theorem dX8_log_77 : decode cX8_log 77 = .ok (.getfield 176, 3) := by decide +kernel
theorem dX8_log_80 : decode cX8_log 80 = .ok (.iload 5, 2) := by decide +kernel
theorem dX8_log_82 : decode cX8_log 82 = .ok (.iaload, 1) := by decide +kernel
theorem dX8_log_83 : decode cX8_log 83 = .ok (.i2l, 1) := by decide +kernel
theorem dX8_log_84 : decode cX8_log 84 = .ok (.invokevirtual 234, 3) := by decide +kernel
theorem dX8_log_87 : decode cX8_log 87 = .ok (.iinc 5 1, 3) := by decide +kernel
theorem dX8_log_90 : decode cX8_log 90 = .ok (.goto (-39), 3) := by decide +kernel
theorem dX8_log_93 : decode cX8_log 93 = .ok (.aload_n 0, 1) := by decide +kernel
theorem dX8_log_94 : decode cX8_log 94 = .ok (.getfield 19, 3) := by decide +kernel
theorem dX8_log_97 : decode cX8_log 97 = .ok (.getfield 93, 3) := by decide +kernel
theorem dX8_log_100 : decode cX8_log 100 = .ok (.ireturn, 1) := by decide +kernel
def R_X8_log (a1 : Int32) (a2 : Int32) (a3 : Int32) (σ : kS) (x : Int32) (τ : kS) : Prop := Run SX jX8_log [(.ref 0), (.int a1), (.int a2), (.int a3)] σ (some (.int x)) τ
def E_X8_log_51 (l1 : Int32) (l3 : Int32) (l5 : Int32) (σ : kS) (x : Int32) (τ : kS) : Prop := Ex SX jX8_log 51 [some (.ref 0), some (.int l1), none, some (.int l3), none, some (.int l5)] [] σ (some (.int x)) τ
set_option maxRecDepth 20000 in
theorem t_X8_log {a1 : Int32} {a2 : Int32} {a3 : Int32} {σ : kS} {x : Int32} {τ : kS}  (h : ((0 < (σ.1 3 1) ∧ 0 < (σ.1 3 2)) → ∃ (x3 : Int32) (s2 : kS), R_X8_refusal a1 a2 a3 (σ.1 3 2) σ x3 s2 ∧ ((x3 = 0 → ∃ (x6 : Int32) (s5 : kS), R_X1_singAll 3 s2 x6 s5 ∧ (E_X8_log_51 a1 a3 (0 : Int32) s5 x τ)) ∧ (¬ x3 = 0 → x = x3 ∧ τ = s2))) ∧ (¬ (0 < (σ.1 3 1) ∧ 0 < (σ.1 3 2)) → x = (-1 : Int32) ∧ τ = σ)) : R_X8_log a1 a2 a3 σ x τ := by
  refine x_run [some (.ref 0), some (.int a1), some (.int a2), some (.int a3), none, none] (by decide +kernel) rfl (Nat.le_of_ble_eq_true rfl) ?_
  refine x_aload_n (pc := 0) 0 dX8_log_0 rfl rfl ?_
  refine x_getR (pc := 1) dX8_log_1 fX8_19 rfl rfl ?_
  refine x_callV (pc := 4) [] [] dX8_log_4 ⟨⟨hX7_isThere.1, hX7_isThere.2.1, hX7_isThere.2.2, by decide⟩, mX8_143, vX7_isThere.1, vX7_isThere.2⟩ (ci := 7) rfl rfl rfl rfl (Nat.le_of_ble_eq_true rfl) (i_X7_isThere rfl) ?_
  refine x_bif_ne (pc := 7) 12 dX8_log_7 (by decide) (fun c1 => ?_) (fun c1 => ?_)
  · replace h := h.1 c1
    refine x_aload_n (pc := 12) 0 dX8_log_12 rfl rfl ?_
    refine x_iload_n (pc := 13) 1 dX8_log_13 rfl rfl ?_
    refine x_iload_n (pc := 14) 2 dX8_log_14 rfl rfl ?_
    refine x_iload_n (pc := 15) 3 dX8_log_15 rfl rfl ?_
    refine x_aload_n (pc := 16) 0 dX8_log_16 rfl rfl ?_
    refine x_getR (pc := 17) dX8_log_17 fX8_19 rfl rfl ?_
    refine x_getI (pc := 20) dX8_log_20 fX8_93 rfl rfl ?_
    obtain ⟨x3, s2, hr, h⟩ := h
    refine x_callV (pc := 23) [(.int a1), (.int a2), (.int a3), (.int (σ.1 3 2))] [] dX8_log_23 ⟨⟨hX8_refusal.1, hX8_refusal.2.1, hX8_refusal.2.2, by decide⟩, mX8_230, vX8_refusal.1, vX8_refusal.2⟩ (ci := 8) rfl rfl rfl rfl (Nat.le_of_ble_eq_true rfl) hr ?_
    refine x_istore (pc := 26) dX8_log_26 (by decide) rfl ?_
    refine x_iload (pc := 28) dX8_log_28 rfl ?_
    refine x_if_eq (pc := 30) 36 dX8_log_30 (by decide) (fun c4 => ?_) (fun c4 => ?_)
    · replace h := h.1 c4
      refine x_aload_n (pc := 36) 0 dX8_log_36 rfl rfl ?_
      refine x_getR (pc := 37) dX8_log_37 fX8_40 rfl rfl ?_
      refine x_aload_n (pc := 40) 0 dX8_log_40 rfl rfl ?_
      refine x_getR (pc := 41) dX8_log_41 fX8_19 rfl rfl ?_
      obtain ⟨x6, s5, hr, h⟩ := h
      refine x_callV (pc := 44) [(.ref 3)] [] dX8_log_44 ⟨⟨hX1_singAll.1, hX1_singAll.2.1, hX1_singAll.2.2, by decide⟩, mX8_173, vX1_singAll.1, vX1_singAll.2⟩ (ci := 1) rfl rfl rfl rfl (Nat.le_of_ble_eq_true rfl) hr ?_
      refine x_pop (pc := 47) dX8_log_47 rfl ?_
      refine x_iconst (pc := 48) (0 : Int32) dX8_log_48 (by decide +kernel) ?_
      refine x_istore (pc := 49) dX8_log_49 (by decide) rfl ?_
      exact x_mask [true, true, false, true, false, true] h
    · replace h := h.2 c4
      refine x_iload (pc := 33) dX8_log_33 rfl ?_
      exact x_ireturn2 (pc := 35) dX8_log_35 rfl h.1 h.2
  · replace h := h.2 c1
    refine x_iconst (pc := 10) (-1 : Int32) dX8_log_10 (by decide +kernel) ?_
    exact x_ireturn2 (pc := 11) dX8_log_11 rfl h.1 h.2
set_option maxRecDepth 20000 in
theorem t_X8_log_51 {l1 : Int32} {l3 : Int32} {l5 : Int32} {σ : kS} {x : Int32} {τ : kS}  (h : ((σ.1 3 2) ≤ l5 → x = (σ.1 3 2) ∧ τ = σ) ∧ (¬ (σ.1 3 2) ≤ l5 → vp_in l1 4 ∧ ∃ q3 : Nat, k_fd SX 38 l1.toNatClampNeg = some (some q3) ∧ k_sht q3 = true ∧ (vp_in l5 5 ∧ (∃ s6 : kS, R_X4_put q3 (l3 + l5) (σ.1 28 l5.toNatClampNeg).toInt64 σ s6 ∧ (E_X8_log_51 l1 l3 (l5 + (1 : Int32)) s6 x τ))))) : E_X8_log_51 l1 l3 l5 σ x τ := by
  unfold E_X8_log_51
  refine x_iload (pc := 51) dX8_log_51 rfl ?_
  refine x_aload_n (pc := 53) 0 dX8_log_53 rfl rfl ?_
  refine x_getR (pc := 54) dX8_log_54 fX8_19 rfl rfl ?_
  refine x_getI (pc := 57) dX8_log_57 fX8_93 rfl rfl ?_
  refine x_icmp_ge (pc := 60) 93 dX8_log_60 (by decide) (fun c1 => ?_) (fun c1 => ?_)
  · replace h := h.1 c1
    refine x_aload_n (pc := 93) 0 dX8_log_93 rfl rfl ?_
    refine x_getR (pc := 94) dX8_log_94 fX8_19 rfl rfl ?_
    refine x_getI (pc := 97) dX8_log_97 fX8_93 rfl rfl ?_
    exact x_ireturn2 (pc := 100) dX8_log_100 rfl h.1 h.2
  · replace h := h.2 c1
    refine x_aload_n (pc := 63) 0 dX8_log_63 rfl rfl ?_
    refine x_getR (pc := 64) dX8_log_64 fX8_65 rfl rfl ?_
    refine x_iload_n (pc := 67) 1 dX8_log_67 rfl rfl ?_
    obtain ⟨g2, q3, e4, hq3, h⟩ := h
    refine x_aaload5 (pc := 68) (n := 4) dX8_log_68 rfl g2 e4 ?_
    refine x_iload_n (pc := 69) 3 dX8_log_69 rfl rfl ?_
    refine x_iload (pc := 70) dX8_log_70 rfl ?_
    refine x_iadd (pc := 72) dX8_log_72 ?_
    refine x_aload_n (pc := 73) 0 dX8_log_73 rfl rfl ?_
    refine x_getR (pc := 74) dX8_log_74 fX8_40 rfl rfl ?_
    refine x_getR (pc := 77) dX8_log_77 fX8_176 rfl rfl ?_
    refine x_iload (pc := 80) dX8_log_80 rfl ?_
    obtain ⟨g5, h⟩ := h
    refine x_iaload (pc := 82) (n := 5) dX8_log_82 rfl g5 ?_
    refine x_i2l (pc := 83) dX8_log_83 ?_
    obtain ⟨s6, hr, h⟩ := h
    refine x_callV (pc := 84) [(.int (l3 + l5)), (.long (σ.1 28 l5.toNatClampNeg).toInt64)] [] dX8_log_84 ⟨⟨hX4_put.1, hX4_put.2.1, hX4_put.2.2, by decide⟩, mX8_234, vX4_put.1, vX4_put.2⟩ (ci := 4) rfl (sh_is hq3) rfl rfl (Nat.le_of_ble_eq_true rfl) hr ?_
    refine x_iinc (pc := 87) (1 : Int32) dX8_log_87 (by decide) rfl rfl (by decide +kernel) ?_
    refine x_goto (pc := 90) 51 dX8_log_90 (by decide) ?_
    exact h
theorem dX8_sounded_0 : decode cX8_sounded 0 = .ok (.aload_n 0, 1) := by decide +kernel
theorem dX8_sounded_1 : decode cX8_sounded 1 = .ok (.getfield 19, 3) := by decide +kernel
theorem dX8_sounded_4 : decode cX8_sounded 4 = .ok (.invokevirtual 143, 3) := by decide +kernel
theorem dX8_sounded_7 : decode cX8_sounded 7 = .ok (.ifCond .eq 25, 3) := by decide +kernel
theorem dX8_sounded_10 : decode cX8_sounded 10 = .ok (.iload 4, 2) := by decide +kernel
theorem dX8_sounded_12 : decode cX8_sounded 12 = .ok (.iconst 1, 1) := by decide +kernel
theorem dX8_sounded_13 : decode cX8_sounded 13 = .ok (.if_icmp .lt 19, 3) := by decide +kernel
theorem dX8_sounded_16 : decode cX8_sounded 16 = .ok (.iload 4, 2) := by decide +kernel
theorem dX8_sounded_18 : decode cX8_sounded 18 = .ok (.bipush 6, 2) := by decide +kernel
theorem dX8_sounded_20 : decode cX8_sounded 20 = .ok (.if_icmp .gt 12, 3) := by decide +kernel
theorem dX8_sounded_23 : decode cX8_sounded 23 = .ok (.iload 5, 2) := by decide +kernel
theorem dX8_sounded_25 : decode cX8_sounded 25 = .ok (.iconst 3, 1) := by decide +kernel
theorem dX8_sounded_26 : decode cX8_sounded 26 = .ok (.invokestatic 70, 3) := by decide +kernel
theorem dX8_sounded_29 : decode cX8_sounded 29 = .ok (.ifCond .ne 5, 3) := by decide +kernel
theorem dX8_sounded_32 : decode cX8_sounded 32 = .ok (.iconst (-1), 1) := by decide +kernel
theorem dX8_sounded_33 : decode cX8_sounded 33 = .ok (.ireturn, 1) := by decide +kernel
theorem dX8_sounded_34 : decode cX8_sounded 34 = .ok (.aload_n 0, 1) := by decide +kernel
theorem dX8_sounded_35 : decode cX8_sounded 35 = .ok (.iload_n 1, 1) := by decide +kernel
theorem dX8_sounded_36 : decode cX8_sounded 36 = .ok (.iload_n 2, 1) := by decide +kernel
theorem dX8_sounded_37 : decode cX8_sounded 37 = .ok (.iload_n 3, 1) := by decide +kernel
theorem dX8_sounded_38 : decode cX8_sounded 38 = .ok (.iconst 2, 1) := by decide +kernel
theorem dX8_sounded_39 : decode cX8_sounded 39 = .ok (.iload 4, 2) := by decide +kernel
theorem dX8_sounded_41 : decode cX8_sounded 41 = .ok (.imul, 1) := by decide +kernel
theorem dX8_sounded_42 : decode cX8_sounded 42 = .ok (.invokevirtual 230, 3) := by decide +kernel
theorem dX8_sounded_45 : decode cX8_sounded 45 = .ok (.istore 6, 2) := by decide +kernel
theorem dX8_sounded_47 : decode cX8_sounded 47 = .ok (.iload 6, 2) := by decide +kernel
theorem dX8_sounded_49 : decode cX8_sounded 49 = .ok (.ifCond .eq 6, 3) := by decide +kernel
theorem dX8_sounded_52 : decode cX8_sounded 52 = .ok (.iload 6, 2) := by decide +kernel
theorem dX8_sounded_54 : decode cX8_sounded 54 = .ok (.ireturn, 1) := by decide +kernel
theorem dX8_sounded_55 : decode cX8_sounded 55 = .ok (.aload_n 0, 1) := by decide +kernel
theorem dX8_sounded_56 : decode cX8_sounded 56 = .ok (.getfield 65, 3) := by decide +kernel
theorem dX8_sounded_59 : decode cX8_sounded 59 = .ok (.iload_n 1, 1) := by decide +kernel
theorem dX8_sounded_60 : decode cX8_sounded 60 = .ok (.aaload, 1) := by decide +kernel
theorem dX8_sounded_61 : decode cX8_sounded 61 = .ok (.iload_n 3, 1) := by decide +kernel
theorem dX8_sounded_62 : decode cX8_sounded 62 = .ok (.iload 4, 2) := by decide +kernel
theorem dX8_sounded_64 : decode cX8_sounded 64 = .ok (.aload_n 0, 1) := by decide +kernel
theorem dX8_sounded_65 : decode cX8_sounded 65 = .ok (.getfield 19, 3) := by decide +kernel
theorem dX8_sounded_68 : decode cX8_sounded 68 = .ok (.getfield 93, 3) := by decide +kernel
theorem dX8_sounded_71 : decode cX8_sounded 71 = .ok (.invokevirtual 253, 3) := by decide +kernel
theorem dX8_sounded_74 : decode cX8_sounded 74 = .ok (.ifCond .ne 6, 3) := by decide +kernel
theorem dX8_sounded_77 : decode cX8_sounded 77 = .ok (.bipush (-2), 2) := by decide +kernel
theorem dX8_sounded_79 : decode cX8_sounded 79 = .ok (.ireturn, 1) := by decide +kernel
theorem dX8_sounded_80 : decode cX8_sounded 80 = .ok (.aload_n 0, 1) := by decide +kernel
theorem dX8_sounded_81 : decode cX8_sounded 81 = .ok (.getfield 59, 3) := by decide +kernel
theorem dX8_sounded_84 : decode cX8_sounded 84 = .ok (.aload_n 0, 1) := by decide +kernel
theorem dX8_sounded_85 : decode cX8_sounded 85 = .ok (.getfield 19, 3) := by decide +kernel
theorem dX8_sounded_88 : decode cX8_sounded 88 = .ok (.aload_n 0, 1) := by decide +kernel
theorem dX8_sounded_89 : decode cX8_sounded 89 = .ok (.getfield 40, 3) := by decide +kernel
theorem dX8_sounded_92 : decode cX8_sounded 92 = .ok (.aload_n 0, 1) := by decide +kernel
theorem dX8_sounded_93 : decode cX8_sounded 93 = .ok (.getfield 65, 3) := by decide +kernel
theorem dX8_sounded_96 : decode cX8_sounded 96 = .ok (.iload_n 1, 1) := by decide +kernel
theorem dX8_sounded_97 : decode cX8_sounded 97 = .ok (.aaload, 1) := by decide +kernel
theorem dX8_sounded_98 : decode cX8_sounded 98 = .ok (.iload_n 3, 1) := by decide +kernel
theorem dX8_sounded_99 : decode cX8_sounded 99 = .ok (.iload 4, 2) := by decide +kernel
theorem dX8_sounded_101 : decode cX8_sounded 101 = .ok (.invokevirtual 257, 3) := by decide +kernel
theorem dX8_sounded_104 : decode cX8_sounded 104 = .ok (.iload 5, 2) := by decide +kernel
theorem dX8_sounded_106 : decode cX8_sounded 106 = .ok (.lookupswitch 57 #[(0, 26), (1, 34)], 26) := by decide +kernel
theorem dX8_sounded_132 : decode cX8_sounded 132 = .ok (.aload_n 0, 1) := by decide +kernel
theorem dX8_sounded_133 : decode cX8_sounded 133 = .ok (.getfield 59, 3) := by decide +kernel
theorem dX8_sounded_136 : decode cX8_sounded 136 = .ok (.getfield 261, 3) := by decide +kernel
theorem dX8_sounded_139 : decode cX8_sounded 139 = .ok (.ireturn, 1) := by decide +kernel
theorem dX8_sounded_140 : decode cX8_sounded 140 = .ok (.aload_n 0, 1) := by decide +kernel
theorem dX8_sounded_141 : decode cX8_sounded 141 = .ok (.getfield 59, 3) := by decide +kernel
theorem dX8_sounded_144 : decode cX8_sounded 144 = .ok (.getfield 261, 3) := by decide +kernel
theorem dX8_sounded_147 : decode cX8_sounded 147 = .ok (.ifCond .ne 8, 3) := by decide +kernel
theorem dX8_sounded_150 : decode cX8_sounded 150 = .ok (.bipush (-4), 2) := by decide +kernel
theorem dX8_sounded_152 : decode cX8_sounded 152 = .ok (.goto 10, 3) := by decide +kernel
theorem dX8_sounded_155 : decode cX8_sounded 155 = .ok (.aload_n 0, 1) := by decide +kernel
theorem dX8_sounded_156 : decode cX8_sounded 156 = .ok (.getfield 59, 3) := by decide +kernel
theorem dX8_sounded_159 : decode cX8_sounded 159 = .ok (.getfield 264, 3) := by decide +kernel
theorem dX8_sounded_162 : decode cX8_sounded 162 = .ok (.ireturn, 1) := by decide +kernel
theorem dX8_sounded_163 : decode cX8_sounded 163 = .ok (.aload_n 0, 1) := by decide +kernel
theorem dX8_sounded_164 : decode cX8_sounded 164 = .ok (.getfield 59, 3) := by decide +kernel
theorem dX8_sounded_167 : decode cX8_sounded 167 = .ok (.getfield 261, 3) := by decide +kernel
theorem dX8_sounded_170 : decode cX8_sounded 170 = .ok (.ifCond .ne 8, 3) := by decide +kernel
theorem dX8_sounded_173 : decode cX8_sounded 173 = .ok (.bipush (-4), 2) := by decide +kernel
theorem dX8_sounded_175 : decode cX8_sounded 175 = .ok (.goto 17, 3) := by decide +kernel
theorem dX8_sounded_178 : decode cX8_sounded 178 = .ok (.aload_n 0, 1) := by decide +kernel
theorem dX8_sounded_179 : decode cX8_sounded 179 = .ok (.getfield 59, 3) := by decide +kernel
theorem dX8_sounded_182 : decode cX8_sounded 182 = .ok (.aload_n 0, 1) := by decide +kernel
theorem dX8_sounded_183 : decode cX8_sounded 183 = .ok (.getfield 19, 3) := by decide +kernel
theorem dX8_sounded_186 : decode cX8_sounded 186 = .ok (.getfield 93, 3) := by decide +kernel
theorem dX8_sounded_189 : decode cX8_sounded 189 = .ok (.invokevirtual 267, 3) := by decide +kernel
theorem dX8_sounded_192 : decode cX8_sounded 192 = .ok (.ireturn, 1) := by decide +kernel
def R_X8_sounded (a1 : Int32) (a2 : Int32) (a3 : Int32) (a4 : Int32) (a5 : Int32) (σ : kS) (x : Int32) (τ : kS) : Prop := Run SX jX8_sounded [(.ref 0), (.int a1), (.int a2), (.int a3), (.int a4), (.int a5)] σ (some (.int x)) τ
set_option maxRecDepth 20000 in
theorem t_X8_sounded {a1 : Int32} {a2 : Int32} {a3 : Int32} {a4 : Int32} {a5 : Int32} {σ : kS} {x : Int32} {τ : kS}  (h : (¬ (0 < (σ.1 3 1) ∧ 0 < (σ.1 3 2)) → x = (-1 : Int32) ∧ τ = σ) ∧ ((0 < (σ.1 3 1) ∧ 0 < (σ.1 3 2)) → (a4 < (1 : Int32) → x = (-1 : Int32) ∧ τ = σ) ∧ (¬ a4 < (1 : Int32) → ((6 : Int32) < a4 → x = (-1 : Int32) ∧ τ = σ) ∧ (¬ (6 : Int32) < a4 → ((wn a5 (3 : Int32)) → ∃ (x6 : Int32) (s5 : kS), R_X8_refusal a1 a2 a3 ((2 : Int32) * a4) σ x6 s5 ∧ ((x6 = 0 → vp_in a1 4 ∧ ∃ q9 : Nat, k_fd SX 38 a1.toNatClampNeg = some (some q9) ∧ k_sht q9 = true ∧ (∃ (x12 : Int32) (s11 : kS), R_X4_holdsPairs q9 a3 a4 (s5.1 3 2) s5 x12 s11 ∧ ((¬ x12 = 0 → vp_in a1 4 ∧ ∃ q15 : Nat, k_fd SX 38 a1.toNatClampNeg = some (some q15) ∧ k_sht q15 = true ∧ (∃ s17 : kS, R_X3_listen q15 a3 a4 s11 s17 ∧ ((a5.toInt = 0 → x = (s17.1 34 0) ∧ τ = s17) ∧ (¬ a5.toInt = 0 → (a5.toInt = 1 → (¬ (s17.1 34 0) = 0 → x = (s17.1 34 1) ∧ τ = s17) ∧ ((s17.1 34 0) = 0 → x = (-4 : Int32) ∧ τ = s17)) ∧ (¬ a5.toInt = 1 → (¬ (s17.1 34 0) = 0 → ∃ (x22 : Int32) (s21 : kS), R_X3_bestToHear (s17.1 3 2) s17 x22 s21 ∧ (x = x22 ∧ τ = s21)) ∧ ((s17.1 34 0) = 0 → x = (-4 : Int32) ∧ τ = s17)))))) ∧ (x12 = 0 → x = (-2 : Int32) ∧ τ = s11)))) ∧ (¬ x6 = 0 → x = x6 ∧ τ = s5))) ∧ (¬ (wn a5 (3 : Int32)) → x = (-1 : Int32) ∧ τ = σ))))) : R_X8_sounded a1 a2 a3 a4 a5 σ x τ := by
  refine x_run [some (.ref 0), some (.int a1), some (.int a2), some (.int a3), some (.int a4), some (.int a5), none] (by decide +kernel) rfl (Nat.le_of_ble_eq_true rfl) ?_
  refine x_aload_n (pc := 0) 0 dX8_sounded_0 rfl rfl ?_
  refine x_getR (pc := 1) dX8_sounded_1 fX8_19 rfl rfl ?_
  refine x_callV (pc := 4) [] [] dX8_sounded_4 ⟨⟨hX7_isThere.1, hX7_isThere.2.1, hX7_isThere.2.2, by decide⟩, mX8_143, vX7_isThere.1, vX7_isThere.2⟩ (ci := 7) rfl rfl rfl rfl (Nat.le_of_ble_eq_true rfl) (i_X7_isThere rfl) ?_
  refine x_bif_eq (pc := 7) 32 dX8_sounded_7 (by decide) (fun c1 => ?_) (fun c1 => ?_)
  · replace h := h.1 c1
    refine x_iconst (pc := 32) (-1 : Int32) dX8_sounded_32 (by decide +kernel) ?_
    exact x_ireturn2 (pc := 33) dX8_sounded_33 rfl h.1 h.2
  · replace h := h.2 c1
    refine x_iload (pc := 10) dX8_sounded_10 rfl ?_
    refine x_iconst (pc := 12) (1 : Int32) dX8_sounded_12 (by decide +kernel) ?_
    refine x_icmp_lt (pc := 13) 32 dX8_sounded_13 (by decide) (fun c2 => ?_) (fun c2 => ?_)
    · replace h := h.1 c2
      refine x_iconst (pc := 32) (-1 : Int32) dX8_sounded_32 (by decide +kernel) ?_
      exact x_ireturn2 (pc := 33) dX8_sounded_33 rfl h.1 h.2
    · replace h := h.2 c2
      refine x_iload (pc := 16) dX8_sounded_16 rfl ?_
      refine x_bipush (pc := 18) (6 : Int32) dX8_sounded_18 (by decide +kernel) ?_
      refine x_icmp_gt (pc := 20) 32 dX8_sounded_20 (by decide) (fun c3 => ?_) (fun c3 => ?_)
      · replace h := h.1 c3
        refine x_iconst (pc := 32) (-1 : Int32) dX8_sounded_32 (by decide +kernel) ?_
        exact x_ireturn2 (pc := 33) dX8_sounded_33 rfl h.1 h.2
      · replace h := h.2 c3
        refine x_iload (pc := 23) dX8_sounded_23 rfl ?_
        refine x_iconst (pc := 25) (3 : Int32) dX8_sounded_25 (by decide +kernel) ?_
        refine x_callS (pc := 26) [(.int a5), (.int (3 : Int32))] [] dX8_sounded_26 ⟨⟨hX8_within.1, hX8_within.2.1, hX8_within.2.2, by decide⟩, mX8_70, sX8_within⟩ rfl rfl (Nat.le_of_ble_eq_true rfl) (i_X8_within) ?_
        refine x_bif_ne (pc := 29) 34 dX8_sounded_29 (by decide) (fun c4 => ?_) (fun c4 => ?_)
        · replace h := h.1 c4
          refine x_aload_n (pc := 34) 0 dX8_sounded_34 rfl rfl ?_
          refine x_iload_n (pc := 35) 1 dX8_sounded_35 rfl rfl ?_
          refine x_iload_n (pc := 36) 2 dX8_sounded_36 rfl rfl ?_
          refine x_iload_n (pc := 37) 3 dX8_sounded_37 rfl rfl ?_
          refine x_iconst (pc := 38) (2 : Int32) dX8_sounded_38 (by decide +kernel) ?_
          refine x_iload (pc := 39) dX8_sounded_39 rfl ?_
          refine x_imul (pc := 41) dX8_sounded_41 ?_
          obtain ⟨x6, s5, hr, h⟩ := h
          refine x_callV (pc := 42) [(.int a1), (.int a2), (.int a3), (.int ((2 : Int32) * a4))] [] dX8_sounded_42 ⟨⟨hX8_refusal.1, hX8_refusal.2.1, hX8_refusal.2.2, by decide⟩, mX8_230, vX8_refusal.1, vX8_refusal.2⟩ (ci := 8) rfl rfl rfl rfl (Nat.le_of_ble_eq_true rfl) hr ?_
          refine x_istore (pc := 45) dX8_sounded_45 (by decide) rfl ?_
          refine x_iload (pc := 47) dX8_sounded_47 rfl ?_
          refine x_if_eq (pc := 49) 55 dX8_sounded_49 (by decide) (fun c7 => ?_) (fun c7 => ?_)
          · replace h := h.1 c7
            refine x_aload_n (pc := 55) 0 dX8_sounded_55 rfl rfl ?_
            refine x_getR (pc := 56) dX8_sounded_56 fX8_65 rfl rfl ?_
            refine x_iload_n (pc := 59) 1 dX8_sounded_59 rfl rfl ?_
            obtain ⟨g8, q9, e10, hq9, h⟩ := h
            refine x_aaload5 (pc := 60) (n := 4) dX8_sounded_60 rfl g8 e10 ?_
            refine x_iload_n (pc := 61) 3 dX8_sounded_61 rfl rfl ?_
            refine x_iload (pc := 62) dX8_sounded_62 rfl ?_
            refine x_aload_n (pc := 64) 0 dX8_sounded_64 rfl rfl ?_
            refine x_getR (pc := 65) dX8_sounded_65 fX8_19 rfl rfl ?_
            refine x_getI (pc := 68) dX8_sounded_68 fX8_93 rfl rfl ?_
            obtain ⟨x12, s11, hr, h⟩ := h
            refine x_callV (pc := 71) [(.int a3), (.int a4), (.int (s5.1 3 2))] [] dX8_sounded_71 ⟨⟨hX4_holdsPairs.1, hX4_holdsPairs.2.1, hX4_holdsPairs.2.2, by decide⟩, mX8_253, vX4_holdsPairs.1, vX4_holdsPairs.2⟩ (ci := 4) rfl (sh_is hq9) rfl rfl (Nat.le_of_ble_eq_true rfl) hr ?_
            refine x_if_ne (pc := 74) 80 dX8_sounded_74 (by decide) (fun c13 => ?_) (fun c13 => ?_)
            · replace h := h.1 c13
              refine x_aload_n (pc := 80) 0 dX8_sounded_80 rfl rfl ?_
              refine x_getR (pc := 81) dX8_sounded_81 fX8_59 rfl rfl ?_
              refine x_aload_n (pc := 84) 0 dX8_sounded_84 rfl rfl ?_
              refine x_getR (pc := 85) dX8_sounded_85 fX8_19 rfl rfl ?_
              refine x_aload_n (pc := 88) 0 dX8_sounded_88 rfl rfl ?_
              refine x_getR (pc := 89) dX8_sounded_89 fX8_40 rfl rfl ?_
              refine x_aload_n (pc := 92) 0 dX8_sounded_92 rfl rfl ?_
              refine x_getR (pc := 93) dX8_sounded_93 fX8_65 rfl rfl ?_
              refine x_iload_n (pc := 96) 1 dX8_sounded_96 rfl rfl ?_
              obtain ⟨g14, q15, e16, hq15, h⟩ := h
              refine x_aaload5 (pc := 97) (n := 4) dX8_sounded_97 rfl g14 e16 ?_
              refine x_iload_n (pc := 98) 3 dX8_sounded_98 rfl rfl ?_
              refine x_iload (pc := 99) dX8_sounded_99 rfl ?_
              obtain ⟨s17, hr, h⟩ := h
              refine x_callV (pc := 101) [(.ref 3), (.ref 27), (.ref q15), (.int a3), (.int a4)] [] dX8_sounded_101 ⟨⟨hX3_listen.1, hX3_listen.2.1, hX3_listen.2.2, by decide⟩, mX8_257, vX3_listen.1, vX3_listen.2⟩ (ci := 3) rfl rfl rfl rfl (Nat.le_of_ble_eq_true rfl) hr ?_
              refine x_iload (pc := 104) dX8_sounded_104 rfl ?_
              refine x_lookup (pc := 106) dX8_sounded_106 (by decide +kernel) (by decide +kernel) (by decide) ?_
              refine k_lk_cons (fun c18 => ?_) (fun c18 => ?_)
              · replace h := h.1 c18
                refine x_aload_n (pc := 132) 0 dX8_sounded_132 rfl rfl ?_
                refine x_getR (pc := 133) dX8_sounded_133 fX8_59 rfl rfl ?_
                refine x_getI (pc := 136) dX8_sounded_136 fX8_261 rfl rfl ?_
                exact x_ireturn2 (pc := 139) dX8_sounded_139 rfl h.1 h.2
              replace h := h.2 c18
              refine k_lk_cons (fun c18 => ?_) (fun c18 => ?_)
              · replace h := h.1 c18
                refine x_aload_n (pc := 140) 0 dX8_sounded_140 rfl rfl ?_
                refine x_getR (pc := 141) dX8_sounded_141 fX8_59 rfl rfl ?_
                refine x_getI (pc := 144) dX8_sounded_144 fX8_261 rfl rfl ?_
                refine x_if_ne (pc := 147) 155 dX8_sounded_147 (by decide) (fun c19 => ?_) (fun c19 => ?_)
                · replace h := h.1 c19
                  refine x_aload_n (pc := 155) 0 dX8_sounded_155 rfl rfl ?_
                  refine x_getR (pc := 156) dX8_sounded_156 fX8_59 rfl rfl ?_
                  refine x_getI (pc := 159) dX8_sounded_159 fX8_264 rfl rfl ?_
                  exact x_ireturn2 (pc := 162) dX8_sounded_162 rfl h.1 h.2
                · replace h := h.2 c19
                  refine x_bipush (pc := 150) (-4 : Int32) dX8_sounded_150 (by decide +kernel) ?_
                  refine x_goto (pc := 152) 162 dX8_sounded_152 (by decide) ?_
                  exact x_ireturn2 (pc := 162) dX8_sounded_162 rfl h.1 h.2
              replace h := h.2 c18
              refine k_lk_nil ?_
              refine x_aload_n (pc := 163) 0 dX8_sounded_163 rfl rfl ?_
              refine x_getR (pc := 164) dX8_sounded_164 fX8_59 rfl rfl ?_
              refine x_getI (pc := 167) dX8_sounded_167 fX8_261 rfl rfl ?_
              refine x_if_ne (pc := 170) 178 dX8_sounded_170 (by decide) (fun c20 => ?_) (fun c20 => ?_)
              · replace h := h.1 c20
                refine x_aload_n (pc := 178) 0 dX8_sounded_178 rfl rfl ?_
                refine x_getR (pc := 179) dX8_sounded_179 fX8_59 rfl rfl ?_
                refine x_aload_n (pc := 182) 0 dX8_sounded_182 rfl rfl ?_
                refine x_getR (pc := 183) dX8_sounded_183 fX8_19 rfl rfl ?_
                refine x_getI (pc := 186) dX8_sounded_186 fX8_93 rfl rfl ?_
                obtain ⟨x22, s21, hr, h⟩ := h
                refine x_callV (pc := 189) [(.int (s17.1 3 2))] [] dX8_sounded_189 ⟨⟨hX3_bestToHear.1, hX3_bestToHear.2.1, hX3_bestToHear.2.2, by decide⟩, mX8_267, vX3_bestToHear.1, vX3_bestToHear.2⟩ (ci := 3) rfl rfl rfl rfl (Nat.le_of_ble_eq_true rfl) hr ?_
                exact x_ireturn2 (pc := 192) dX8_sounded_192 rfl h.1 h.2
              · replace h := h.2 c20
                refine x_bipush (pc := 173) (-4 : Int32) dX8_sounded_173 (by decide +kernel) ?_
                refine x_goto (pc := 175) 192 dX8_sounded_175 (by decide) ?_
                exact x_ireturn2 (pc := 192) dX8_sounded_192 rfl h.1 h.2
            · replace h := h.2 c13
              refine x_bipush (pc := 77) (-2 : Int32) dX8_sounded_77 (by decide +kernel) ?_
              exact x_ireturn2 (pc := 79) dX8_sounded_79 rfl h.1 h.2
          · replace h := h.2 c7
            refine x_iload (pc := 52) dX8_sounded_52 rfl ?_
            exact x_ireturn2 (pc := 54) dX8_sounded_54 rfl h.1 h.2
        · replace h := h.2 c4
          refine x_iconst (pc := 32) (-1 : Int32) dX8_sounded_32 (by decide +kernel) ?_
          exact x_ireturn2 (pc := 33) dX8_sounded_33 rfl h.1 h.2
theorem dX8_agrees_0 : decode cX8_agrees 0 = .ok (.iconst 0, 1) := by decide +kernel
theorem dX8_agrees_1 : decode cX8_agrees 1 = .ok (.istore 6, 2) := by decide +kernel
theorem dX8_agrees_3 : decode cX8_agrees 3 = .ok (.iload 6, 2) := by decide +kernel
theorem dX8_agrees_5 : decode cX8_agrees 5 = .ok (.iload 5, 2) := by decide +kernel
theorem dX8_agrees_7 : decode cX8_agrees 7 = .ok (.if_icmp .ge 56, 3) := by decide +kernel
theorem dX8_agrees_10 : decode cX8_agrees 10 = .ok (.aload_n 3, 1) := by decide +kernel
theorem dX8_agrees_11 : decode cX8_agrees 11 = .ok (.getfield 237, 3) := by decide +kernel
theorem dX8_agrees_14 : decode cX8_agrees 14 = .ok (.iload 4, 2) := by decide +kernel
theorem dX8_agrees_16 : decode cX8_agrees 16 = .ok (.iconst 2, 1) := by decide +kernel
theorem dX8_agrees_17 : decode cX8_agrees 17 = .ok (.iload 6, 2) := by decide +kernel
theorem dX8_agrees_19 : decode cX8_agrees 19 = .ok (.imul, 1) := by decide +kernel
theorem dX8_agrees_20 : decode cX8_agrees 20 = .ok (.iadd, 1) := by decide +kernel
theorem dX8_agrees_21 : decode cX8_agrees 21 = .ok (.laload, 1) := by decide +kernel
theorem dX8_agrees_22 : decode cX8_agrees 22 = .ok (.l2i, 1) := by decide +kernel
theorem dX8_agrees_23 : decode cX8_agrees 23 = .ok (.istore 7, 2) := by decide +kernel
theorem dX8_agrees_25 : decode cX8_agrees 25 = .ok (.aload_n 0, 1) := by decide +kernel
theorem dX8_agrees_26 : decode cX8_agrees 26 = .ok (.getfield 40, 3) := by decide +kernel
theorem dX8_agrees_29 : decode cX8_agrees 29 = .ok (.iload_n 1, 1) := by decide +kernel
theorem dX8_agrees_30 : decode cX8_agrees 30 = .ok (.iload_n 2, 1) := by decide +kernel
theorem dX8_agrees_31 : decode cX8_agrees 31 = .ok (.iload 7, 2) := by decide +kernel
theorem dX8_agrees_33 : decode cX8_agrees 33 = .ok (.invokevirtual 304, 3) := by decide +kernel
theorem dX8_agrees_36 : decode cX8_agrees 36 = .ok (.i2l, 1) := by decide +kernel
theorem dX8_agrees_37 : decode cX8_agrees 37 = .ok (.aload_n 3, 1) := by decide +kernel
theorem dX8_agrees_38 : decode cX8_agrees 38 = .ok (.getfield 237, 3) := by decide +kernel
theorem dX8_agrees_41 : decode cX8_agrees 41 = .ok (.iload 4, 2) := by decide +kernel
theorem dX8_agrees_43 : decode cX8_agrees 43 = .ok (.iconst 2, 1) := by decide +kernel
theorem dX8_agrees_44 : decode cX8_agrees 44 = .ok (.iload 6, 2) := by decide +kernel
theorem dX8_agrees_46 : decode cX8_agrees 46 = .ok (.imul, 1) := by decide +kernel
theorem dX8_agrees_47 : decode cX8_agrees 47 = .ok (.iadd, 1) := by decide +kernel
theorem dX8_agrees_48 : decode cX8_agrees 48 = .ok (.iconst 1, 1) := by decide +kernel
theorem dX8_agrees_49 : decode cX8_agrees 49 = .ok (.iadd, 1) := by decide +kernel
theorem dX8_agrees_50 : decode cX8_agrees 50 = .ok (.laload, 1) := by decide +kernel
theorem dX8_agrees_51 : decode cX8_agrees 51 = .ok (.lcmp, 1) := by decide +kernel
theorem dX8_agrees_52 : decode cX8_agrees 52 = .ok (.ifCond .eq 5, 3) := by decide +kernel
theorem dX8_agrees_55 : decode cX8_agrees 55 = .ok (.iconst 0, 1) := by decide +kernel
theorem dX8_agrees_56 : decode cX8_agrees 56 = .ok (.ireturn, 1) := by decide +kernel
theorem dX8_agrees_57 : decode cX8_agrees 57 = .ok (.iinc 6 1, 3) := by decide +kernel
theorem dX8_agrees_60 : decode cX8_agrees 60 = .ok (.goto (-57), 3) := by decide +kernel
theorem dX8_agrees_63 : decode cX8_agrees 63 = .ok (.iconst 1, 1) := by decide +kernel
theorem dX8_agrees_64 : decode cX8_agrees 64 = .ok (.ireturn, 1) := by decide +kernel
def R_X8_agrees (a1 : Int32) (a2 : Int32) (s : Nat) (a4 : Int32) (a5 : Int32) (σ : kS) (x : Int32) (τ : kS) : Prop := Run SX jX8_agrees [(.ref 0), (.int a1), (.int a2), (.ref s), (.int a4), (.int a5)] σ (some (.int x)) τ
def E_X8_agrees_3 (s : Nat) (l1 : Int32) (l2 : Int32) (l4 : Int32) (l5 : Int32) (l6 : Int32) (σ : kS) (x : Int32) (τ : kS) : Prop := Ex SX jX8_agrees 3 [some (.ref 0), some (.int l1), some (.int l2), some (.ref s), some (.int l4), some (.int l5), some (.int l6), none] [] σ (some (.int x)) τ
set_option maxRecDepth 20000 in
theorem t_X8_agrees {a1 : Int32} {a2 : Int32} {s : Nat} {a4 : Int32} {a5 : Int32} {σ : kS} {x : Int32} {τ : kS} (hs : k_sht s = true) (h : E_X8_agrees_3 s a1 a2 a4 a5 (0 : Int32) σ x τ) : R_X8_agrees a1 a2 s a4 a5 σ x τ := by
  refine x_run [some (.ref 0), some (.int a1), some (.int a2), some (.ref s), some (.int a4), some (.int a5), none, none] (by decide +kernel) rfl (Nat.le_of_ble_eq_true rfl) ?_
  refine x_iconst (pc := 0) (0 : Int32) dX8_agrees_0 (by decide +kernel) ?_
  refine x_istore (pc := 1) dX8_agrees_1 (by decide) rfl ?_
  exact h
set_option maxRecDepth 20000 in
theorem t_X8_agrees_3 {s : Nat} {l1 : Int32} {l2 : Int32} {l4 : Int32} {l5 : Int32} {l6 : Int32} {σ : kS} {x : Int32} {τ : kS} (hs : k_sht s = true) (h : (l5 ≤ l6 → x = (1 : Int32) ∧ τ = σ) ∧ (¬ l5 ≤ l6 → vp_in (l4 + ((2 : Int32) * l6)) 24 ∧ (∃ (x4 : Int32) (s3 : kS), R_X1_alone l1 l2 (σ.2 (s + 1) (l4 + ((2 : Int32) * l6)).toNatClampNeg).toInt32 σ x4 s3 ∧ (vp_in ((l4 + ((2 : Int32) * l6)) + (1 : Int32)) 24 ∧ (((lg_cmp x4.toInt64 (s3.2 (s + 1) ((l4 + ((2 : Int32) * l6)) + (1 : Int32)).toNatClampNeg)) = 0 → E_X8_agrees_3 s l1 l2 l4 l5 (l6 + (1 : Int32)) s3 x τ) ∧ (¬ (lg_cmp x4.toInt64 (s3.2 (s + 1) ((l4 + ((2 : Int32) * l6)) + (1 : Int32)).toNatClampNeg)) = 0 → x = (0 : Int32) ∧ τ = s3)))))) : E_X8_agrees_3 s l1 l2 l4 l5 l6 σ x τ := by
  unfold E_X8_agrees_3
  refine x_iload (pc := 3) dX8_agrees_3 rfl ?_
  refine x_iload (pc := 5) dX8_agrees_5 rfl ?_
  refine x_icmp_ge (pc := 7) 63 dX8_agrees_7 (by decide) (fun c1 => ?_) (fun c1 => ?_)
  · replace h := h.1 c1
    refine x_iconst (pc := 63) (1 : Int32) dX8_agrees_63 (by decide +kernel) ?_
    exact x_zreturn2 (pc := 64) dX8_agrees_64 rfl rfl h.1 h.2
  · replace h := h.2 c1
    refine x_aload_n (pc := 10) 3 dX8_agrees_10 rfl rfl ?_
    refine x_getR (pc := 11) dX8_agrees_11 fX8_237 (sh_is hs) (sh_r hs) ?_
    refine x_iload (pc := 14) dX8_agrees_14 rfl ?_
    refine x_iconst (pc := 16) (2 : Int32) dX8_agrees_16 (by decide +kernel) ?_
    refine x_iload (pc := 17) dX8_agrees_17 rfl ?_
    refine x_imul (pc := 19) dX8_agrees_19 ?_
    refine x_iadd (pc := 20) dX8_agrees_20 ?_
    obtain ⟨g2, h⟩ := h
    refine x_laload (pc := 21) (n := 24) dX8_agrees_21 (sh_a hs) g2 ?_
    refine x_l2i (pc := 22) dX8_agrees_22 ?_
    refine x_istore (pc := 23) dX8_agrees_23 (by decide) rfl ?_
    refine x_aload_n (pc := 25) 0 dX8_agrees_25 rfl rfl ?_
    refine x_getR (pc := 26) dX8_agrees_26 fX8_40 rfl rfl ?_
    refine x_iload_n (pc := 29) 1 dX8_agrees_29 rfl rfl ?_
    refine x_iload_n (pc := 30) 2 dX8_agrees_30 rfl rfl ?_
    refine x_iload (pc := 31) dX8_agrees_31 rfl ?_
    obtain ⟨x4, s3, hr, h⟩ := h
    refine x_callV (pc := 33) [(.int l1), (.int l2), (.int (σ.2 (s + 1) (l4 + ((2 : Int32) * l6)).toNatClampNeg).toInt32)] [] dX8_agrees_33 ⟨⟨hX1_alone.1, hX1_alone.2.1, hX1_alone.2.2, by decide⟩, mX8_304, vX1_alone.1, vX1_alone.2⟩ (ci := 1) rfl rfl rfl rfl (Nat.le_of_ble_eq_true rfl) hr ?_
    refine x_i2l (pc := 36) dX8_agrees_36 ?_
    refine x_aload_n (pc := 37) 3 dX8_agrees_37 rfl rfl ?_
    refine x_getR (pc := 38) dX8_agrees_38 fX8_237 (sh_is hs) (sh_r hs) ?_
    refine x_iload (pc := 41) dX8_agrees_41 rfl ?_
    refine x_iconst (pc := 43) (2 : Int32) dX8_agrees_43 (by decide +kernel) ?_
    refine x_iload (pc := 44) dX8_agrees_44 rfl ?_
    refine x_imul (pc := 46) dX8_agrees_46 ?_
    refine x_iadd (pc := 47) dX8_agrees_47 ?_
    refine x_iconst (pc := 48) (1 : Int32) dX8_agrees_48 (by decide +kernel) ?_
    refine x_iadd (pc := 49) dX8_agrees_49 ?_
    obtain ⟨g5, h⟩ := h
    refine x_laload (pc := 50) (n := 24) dX8_agrees_50 (sh_a hs) g5 ?_
    refine x_lcmp (pc := 51) dX8_agrees_51 ?_
    refine x_if_eq (pc := 52) 57 dX8_agrees_52 (by decide) (fun c6 => ?_) (fun c6 => ?_)
    · replace h := h.1 c6
      refine x_iinc (pc := 57) (1 : Int32) dX8_agrees_57 (by decide) rfl rfl (by decide +kernel) ?_
      refine x_goto (pc := 60) 3 dX8_agrees_60 (by decide) ?_
      exact x_mask [true, true, true, true, true, true, true, false] h
    · replace h := h.2 c6
      refine x_iconst (pc := 55) (0 : Int32) dX8_agrees_55 (by decide +kernel) ?_
      exact x_zreturn2 (pc := 56) dX8_agrees_56 rfl rfl h.1 h.2
theorem dX8_kinds_0 : decode cX8_kinds 0 = .ok (.aload_n 0, 1) := by decide +kernel
theorem dX8_kinds_1 : decode cX8_kinds 1 = .ok (.iload_n 1, 1) := by decide +kernel
theorem dX8_kinds_2 : decode cX8_kinds 2 = .ok (.invokevirtual 117, 3) := by decide +kernel
theorem dX8_kinds_5 : decode cX8_kinds 5 = .ok (.ifCond .eq 16, 3) := by decide +kernel
theorem dX8_kinds_8 : decode cX8_kinds 8 = .ok (.iload 5, 2) := by decide +kernel
theorem dX8_kinds_10 : decode cX8_kinds 10 = .ok (.iconst 1, 1) := by decide +kernel
theorem dX8_kinds_11 : decode cX8_kinds 11 = .ok (.if_icmp .lt 10, 3) := by decide +kernel
theorem dX8_kinds_14 : decode cX8_kinds 14 = .ok (.iload 5, 2) := by decide +kernel
theorem dX8_kinds_16 : decode cX8_kinds 16 = .ok (.bipush 6, 2) := by decide +kernel
theorem dX8_kinds_18 : decode cX8_kinds 18 = .ok (.if_icmp .le 5, 3) := by decide +kernel
theorem dX8_kinds_21 : decode cX8_kinds 21 = .ok (.iconst (-1), 1) := by decide +kernel
theorem dX8_kinds_22 : decode cX8_kinds 22 = .ok (.ireturn, 1) := by decide +kernel
theorem dX8_kinds_23 : decode cX8_kinds 23 = .ok (.aload_n 0, 1) := by decide +kernel
theorem dX8_kinds_24 : decode cX8_kinds 24 = .ok (.iload_n 2, 1) := by decide +kernel
theorem dX8_kinds_25 : decode cX8_kinds 25 = .ok (.iload_n 3, 1) := by decide +kernel
theorem dX8_kinds_26 : decode cX8_kinds 26 = .ok (.iload 4, 2) := by decide +kernel
theorem dX8_kinds_28 : decode cX8_kinds 28 = .ok (.iconst 2, 1) := by decide +kernel
theorem dX8_kinds_29 : decode cX8_kinds 29 = .ok (.iload 5, 2) := by decide +kernel
theorem dX8_kinds_31 : decode cX8_kinds 31 = .ok (.imul, 1) := by decide +kernel
theorem dX8_kinds_32 : decode cX8_kinds 32 = .ok (.invokevirtual 230, 3) := by decide +kernel
theorem dX8_kinds_35 : decode cX8_kinds 35 = .ok (.istore 6, 2) := by decide +kernel
theorem dX8_kinds_37 : decode cX8_kinds 37 = .ok (.iload 6, 2) := by decide +kernel
theorem dX8_kinds_39 : decode cX8_kinds 39 = .ok (.ifCond .eq 6, 3) := by decide +kernel
theorem dX8_kinds_42 : decode cX8_kinds 42 = .ok (.iload 6, 2) := by decide +kernel
theorem dX8_kinds_44 : decode cX8_kinds 44 = .ok (.ireturn, 1) := by decide +kernel
theorem dX8_kinds_45 : decode cX8_kinds 45 = .ok (.aload_n 0, 1) := by decide +kernel
theorem dX8_kinds_46 : decode cX8_kinds 46 = .ok (.getfield 65, 3) := by decide +kernel
theorem dX8_kinds_49 : decode cX8_kinds 49 = .ok (.iload_n 2, 1) := by decide +kernel
theorem dX8_kinds_50 : decode cX8_kinds 50 = .ok (.aaload, 1) := by decide +kernel
theorem dX8_kinds_51 : decode cX8_kinds 51 = .ok (.iload 4, 2) := by decide +kernel
theorem dX8_kinds_53 : decode cX8_kinds 53 = .ok (.iload 5, 2) := by decide +kernel
theorem dX8_kinds_55 : decode cX8_kinds 55 = .ok (.sipush 4096, 3) := by decide +kernel
theorem dX8_kinds_58 : decode cX8_kinds 58 = .ok (.invokevirtual 253, 3) := by decide +kernel
theorem dX8_kinds_61 : decode cX8_kinds 61 = .ok (.ifCond .ne 6, 3) := by decide +kernel
theorem dX8_kinds_64 : decode cX8_kinds 64 = .ok (.bipush (-2), 2) := by decide +kernel
theorem dX8_kinds_66 : decode cX8_kinds 66 = .ok (.ireturn, 1) := by decide +kernel
theorem dX8_kinds_67 : decode cX8_kinds 67 = .ok (.iconst 0, 1) := by decide +kernel
theorem dX8_kinds_68 : decode cX8_kinds 68 = .ok (.istore 7, 2) := by decide +kernel
theorem dX8_kinds_70 : decode cX8_kinds 70 = .ok (.iconst 1, 1) := by decide +kernel
theorem dX8_kinds_71 : decode cX8_kinds 71 = .ok (.istore 8, 2) := by decide +kernel
theorem dX8_kinds_73 : decode cX8_kinds 73 = .ok (.iload 8, 2) := by decide +kernel
theorem dX8_kinds_75 : decode cX8_kinds 75 = .ok (.bipush 6, 2) := by decide +kernel
theorem dX8_kinds_77 : decode cX8_kinds 77 = .ok (.if_icmp .ge 45, 3) := by decide +kernel
theorem dX8_kinds_80 : decode cX8_kinds 80 = .ok (.aload_n 0, 1) := by decide +kernel
theorem dX8_kinds_81 : decode cX8_kinds 81 = .ok (.iload 8, 2) := by decide +kernel
theorem dX8_kinds_83 : decode cX8_kinds 83 = .ok (.aload_n 0, 1) := by decide +kernel
theorem dX8_kinds_84 : decode cX8_kinds 84 = .ok (.getfield 19, 3) := by decide +kernel
theorem dX8_kinds_87 : decode cX8_kinds 87 = .ok (.iload_n 1, 1) := by decide +kernel
theorem dX8_kinds_88 : decode cX8_kinds 88 = .ok (.invokevirtual 270, 3) := by decide +kernel
theorem dX8_kinds_91 : decode cX8_kinds 91 = .ok (.aload_n 0, 1) := by decide +kernel
theorem dX8_kinds_92 : decode cX8_kinds 92 = .ok (.getfield 65, 3) := by decide +kernel
theorem dX8_kinds_95 : decode cX8_kinds 95 = .ok (.iload_n 2, 1) := by decide +kernel
theorem dX8_kinds_96 : decode cX8_kinds 96 = .ok (.aaload, 1) := by decide +kernel
theorem dX8_kinds_97 : decode cX8_kinds 97 = .ok (.iload 4, 2) := by decide +kernel
theorem dX8_kinds_99 : decode cX8_kinds 99 = .ok (.iload 5, 2) := by decide +kernel
theorem dX8_kinds_101 : decode cX8_kinds 101 = .ok (.invokevirtual 273, 3) := by decide +kernel
theorem dX8_kinds_104 : decode cX8_kinds 104 = .ok (.ifCond .eq 12, 3) := by decide +kernel
theorem dX8_kinds_107 : decode cX8_kinds 107 = .ok (.iload 7, 2) := by decide +kernel
theorem dX8_kinds_109 : decode cX8_kinds 109 = .ok (.iconst 1, 1) := by decide +kernel
theorem dX8_kinds_110 : decode cX8_kinds 110 = .ok (.iload 8, 2) := by decide +kernel
theorem dX8_kinds_112 : decode cX8_kinds 112 = .ok (.ishl, 1) := by decide +kernel
theorem dX8_kinds_113 : decode cX8_kinds 113 = .ok (.ior, 1) := by decide +kernel
theorem dX8_kinds_114 : decode cX8_kinds 114 = .ok (.istore 7, 2) := by decide +kernel
theorem dX8_kinds_116 : decode cX8_kinds 116 = .ok (.iinc 8 1, 3) := by decide +kernel
theorem dX8_kinds_119 : decode cX8_kinds 119 = .ok (.goto (-46), 3) := by decide +kernel
theorem dX8_kinds_122 : decode cX8_kinds 122 = .ok (.iload 7, 2) := by decide +kernel
theorem dX8_kinds_124 : decode cX8_kinds 124 = .ok (.ireturn, 1) := by decide +kernel
def R_X8_kinds (a1 : Int32) (a2 : Int32) (a3 : Int32) (a4 : Int32) (a5 : Int32) (σ : kS) (x : Int32) (τ : kS) : Prop := Run SX jX8_kinds [(.ref 0), (.int a1), (.int a2), (.int a3), (.int a4), (.int a5)] σ (some (.int x)) τ
def E_X8_kinds_73 (l1 : Int32) (l2 : Int32) (l4 : Int32) (l5 : Int32) (l7 : Int32) (l8 : Int32) (σ : kS) (x : Int32) (τ : kS) : Prop := Ex SX jX8_kinds 73 [some (.ref 0), some (.int l1), some (.int l2), none, some (.int l4), some (.int l5), none, some (.int l7), some (.int l8)] [] σ (some (.int x)) τ
set_option maxRecDepth 20000 in
theorem t_X8_kinds {a1 : Int32} {a2 : Int32} {a3 : Int32} {a4 : Int32} {a5 : Int32} {σ : kS} {x : Int32} {τ : kS}  (h : (¬ (wn a1 (σ.1 3 2)) → x = (-1 : Int32) ∧ τ = σ) ∧ ((wn a1 (σ.1 3 2)) → (a5 < (1 : Int32) → x = (-1 : Int32) ∧ τ = σ) ∧ (¬ a5 < (1 : Int32) → (a5 ≤ (6 : Int32) → ∃ (x5 : Int32) (s4 : kS), R_X8_refusal a2 a3 a4 ((2 : Int32) * a5) σ x5 s4 ∧ ((x5 = 0 → vp_in a2 4 ∧ ∃ q8 : Nat, k_fd SX 38 a2.toNatClampNeg = some (some q8) ∧ k_sht q8 = true ∧ (∃ (x11 : Int32) (s10 : kS), R_X4_holdsPairs q8 a4 a5 (4096 : Int32) s4 x11 s10 ∧ ((¬ x11 = 0 → E_X8_kinds_73 a1 a2 a4 a5 (0 : Int32) (1 : Int32) s10 x τ) ∧ (x11 = 0 → x = (-2 : Int32) ∧ τ = s10)))) ∧ (¬ x5 = 0 → x = x5 ∧ τ = s4))) ∧ (¬ a5 ≤ (6 : Int32) → x = (-1 : Int32) ∧ τ = σ)))) : R_X8_kinds a1 a2 a3 a4 a5 σ x τ := by
  refine x_run [some (.ref 0), some (.int a1), some (.int a2), some (.int a3), some (.int a4), some (.int a5), none, none, none] (by decide +kernel) rfl (Nat.le_of_ble_eq_true rfl) ?_
  refine x_aload_n (pc := 0) 0 dX8_kinds_0 rfl rfl ?_
  refine x_iload_n (pc := 1) 1 dX8_kinds_1 rfl rfl ?_
  refine x_callV (pc := 2) [(.int a1)] [] dX8_kinds_2 ⟨⟨hX8_isSinger.1, hX8_isSinger.2.1, hX8_isSinger.2.2, by decide⟩, mX8_117, vX8_isSinger.1, vX8_isSinger.2⟩ (ci := 8) rfl rfl rfl rfl (Nat.le_of_ble_eq_true rfl) (i_X8_isSinger) ?_
  refine x_bif_eq (pc := 5) 21 dX8_kinds_5 (by decide) (fun c1 => ?_) (fun c1 => ?_)
  · replace h := h.1 c1
    refine x_iconst (pc := 21) (-1 : Int32) dX8_kinds_21 (by decide +kernel) ?_
    exact x_ireturn2 (pc := 22) dX8_kinds_22 rfl h.1 h.2
  · replace h := h.2 c1
    refine x_iload (pc := 8) dX8_kinds_8 rfl ?_
    refine x_iconst (pc := 10) (1 : Int32) dX8_kinds_10 (by decide +kernel) ?_
    refine x_icmp_lt (pc := 11) 21 dX8_kinds_11 (by decide) (fun c2 => ?_) (fun c2 => ?_)
    · replace h := h.1 c2
      refine x_iconst (pc := 21) (-1 : Int32) dX8_kinds_21 (by decide +kernel) ?_
      exact x_ireturn2 (pc := 22) dX8_kinds_22 rfl h.1 h.2
    · replace h := h.2 c2
      refine x_iload (pc := 14) dX8_kinds_14 rfl ?_
      refine x_bipush (pc := 16) (6 : Int32) dX8_kinds_16 (by decide +kernel) ?_
      refine x_icmp_le (pc := 18) 23 dX8_kinds_18 (by decide) (fun c3 => ?_) (fun c3 => ?_)
      · replace h := h.1 c3
        refine x_aload_n (pc := 23) 0 dX8_kinds_23 rfl rfl ?_
        refine x_iload_n (pc := 24) 2 dX8_kinds_24 rfl rfl ?_
        refine x_iload_n (pc := 25) 3 dX8_kinds_25 rfl rfl ?_
        refine x_iload (pc := 26) dX8_kinds_26 rfl ?_
        refine x_iconst (pc := 28) (2 : Int32) dX8_kinds_28 (by decide +kernel) ?_
        refine x_iload (pc := 29) dX8_kinds_29 rfl ?_
        refine x_imul (pc := 31) dX8_kinds_31 ?_
        obtain ⟨x5, s4, hr, h⟩ := h
        refine x_callV (pc := 32) [(.int a2), (.int a3), (.int a4), (.int ((2 : Int32) * a5))] [] dX8_kinds_32 ⟨⟨hX8_refusal.1, hX8_refusal.2.1, hX8_refusal.2.2, by decide⟩, mX8_230, vX8_refusal.1, vX8_refusal.2⟩ (ci := 8) rfl rfl rfl rfl (Nat.le_of_ble_eq_true rfl) hr ?_
        refine x_istore (pc := 35) dX8_kinds_35 (by decide) rfl ?_
        refine x_iload (pc := 37) dX8_kinds_37 rfl ?_
        refine x_if_eq (pc := 39) 45 dX8_kinds_39 (by decide) (fun c6 => ?_) (fun c6 => ?_)
        · replace h := h.1 c6
          refine x_aload_n (pc := 45) 0 dX8_kinds_45 rfl rfl ?_
          refine x_getR (pc := 46) dX8_kinds_46 fX8_65 rfl rfl ?_
          refine x_iload_n (pc := 49) 2 dX8_kinds_49 rfl rfl ?_
          obtain ⟨g7, q8, e9, hq8, h⟩ := h
          refine x_aaload5 (pc := 50) (n := 4) dX8_kinds_50 rfl g7 e9 ?_
          refine x_iload (pc := 51) dX8_kinds_51 rfl ?_
          refine x_iload (pc := 53) dX8_kinds_53 rfl ?_
          refine x_sipush (pc := 55) (4096 : Int32) dX8_kinds_55 (by decide +kernel) ?_
          obtain ⟨x11, s10, hr, h⟩ := h
          refine x_callV (pc := 58) [(.int a4), (.int a5), (.int (4096 : Int32))] [] dX8_kinds_58 ⟨⟨hX4_holdsPairs.1, hX4_holdsPairs.2.1, hX4_holdsPairs.2.2, by decide⟩, mX8_253, vX4_holdsPairs.1, vX4_holdsPairs.2⟩ (ci := 4) rfl (sh_is hq8) rfl rfl (Nat.le_of_ble_eq_true rfl) hr ?_
          refine x_if_ne (pc := 61) 67 dX8_kinds_61 (by decide) (fun c12 => ?_) (fun c12 => ?_)
          · replace h := h.1 c12
            refine x_iconst (pc := 67) (0 : Int32) dX8_kinds_67 (by decide +kernel) ?_
            refine x_istore (pc := 68) dX8_kinds_68 (by decide) rfl ?_
            refine x_iconst (pc := 70) (1 : Int32) dX8_kinds_70 (by decide +kernel) ?_
            refine x_istore (pc := 71) dX8_kinds_71 (by decide) rfl ?_
            exact x_mask [true, true, true, false, true, true, false, true, true] h
          · replace h := h.2 c12
            refine x_bipush (pc := 64) (-2 : Int32) dX8_kinds_64 (by decide +kernel) ?_
            exact x_ireturn2 (pc := 66) dX8_kinds_66 rfl h.1 h.2
        · replace h := h.2 c6
          refine x_iload (pc := 42) dX8_kinds_42 rfl ?_
          exact x_ireturn2 (pc := 44) dX8_kinds_44 rfl h.1 h.2
      · replace h := h.2 c3
        refine x_iconst (pc := 21) (-1 : Int32) dX8_kinds_21 (by decide +kernel) ?_
        exact x_ireturn2 (pc := 22) dX8_kinds_22 rfl h.1 h.2
set_option maxRecDepth 20000 in
theorem t_X8_kinds_73 {l1 : Int32} {l2 : Int32} {l4 : Int32} {l5 : Int32} {l7 : Int32} {l8 : Int32} {σ : kS} {x : Int32} {τ : kS}  (h : ((6 : Int32) ≤ l8 → x = l7 ∧ τ = σ) ∧ (¬ (6 : Int32) ≤ l8 → ∃ (x3 : Int32) (s2 : kS), R_X7_range 3 l1 σ x3 s2 ∧ (vp_in l2 4 ∧ ∃ q5 : Nat, k_fd SX 38 l2.toNatClampNeg = some (some q5) ∧ k_sht q5 = true ∧ (∃ (x8 : Int32) (s7 : kS), R_X8_agrees l8 x3 q5 l4 l5 s2 x8 s7 ∧ ((x8 = 0 → E_X8_kinds_73 l1 l2 l4 l5 l7 (l8 + (1 : Int32)) s7 x τ) ∧ (¬ x8 = 0 → E_X8_kinds_73 l1 l2 l4 l5 (l7 ||| ((1 : Int32) <<< (l8 &&& 31))) (l8 + (1 : Int32)) s7 x τ)))))) : E_X8_kinds_73 l1 l2 l4 l5 l7 l8 σ x τ := by
  unfold E_X8_kinds_73
  refine x_iload (pc := 73) dX8_kinds_73 rfl ?_
  refine x_bipush (pc := 75) (6 : Int32) dX8_kinds_75 (by decide +kernel) ?_
  refine x_icmp_ge (pc := 77) 122 dX8_kinds_77 (by decide) (fun c1 => ?_) (fun c1 => ?_)
  · replace h := h.1 c1
    refine x_iload (pc := 122) dX8_kinds_122 rfl ?_
    exact x_ireturn2 (pc := 124) dX8_kinds_124 rfl h.1 h.2
  · replace h := h.2 c1
    refine x_aload_n (pc := 80) 0 dX8_kinds_80 rfl rfl ?_
    refine x_iload (pc := 81) dX8_kinds_81 rfl ?_
    refine x_aload_n (pc := 83) 0 dX8_kinds_83 rfl rfl ?_
    refine x_getR (pc := 84) dX8_kinds_84 fX8_19 rfl rfl ?_
    refine x_iload_n (pc := 87) 1 dX8_kinds_87 rfl rfl ?_
    obtain ⟨x3, s2, hr, h⟩ := h
    refine x_callV (pc := 88) [(.int l1)] [(.int l8), (.ref 0)] dX8_kinds_88 ⟨⟨hX7_range.1, hX7_range.2.1, hX7_range.2.2, by decide⟩, mX8_270, vX7_range.1, vX7_range.2⟩ (ci := 7) rfl rfl rfl rfl (Nat.le_of_ble_eq_true rfl) hr ?_
    refine x_aload_n (pc := 91) 0 dX8_kinds_91 rfl rfl ?_
    refine x_getR (pc := 92) dX8_kinds_92 fX8_65 rfl rfl ?_
    refine x_iload_n (pc := 95) 2 dX8_kinds_95 rfl rfl ?_
    obtain ⟨g4, q5, e6, hq5, h⟩ := h
    refine x_aaload5 (pc := 96) (n := 4) dX8_kinds_96 rfl g4 e6 ?_
    refine x_iload (pc := 97) dX8_kinds_97 rfl ?_
    refine x_iload (pc := 99) dX8_kinds_99 rfl ?_
    obtain ⟨x8, s7, hr, h⟩ := h
    refine x_callV (pc := 101) [(.int l8), (.int x3), (.ref q5), (.int l4), (.int l5)] [] dX8_kinds_101 ⟨⟨hX8_agrees.1, hX8_agrees.2.1, hX8_agrees.2.2, by decide⟩, mX8_273, vX8_agrees.1, vX8_agrees.2⟩ (ci := 8) rfl rfl rfl rfl (Nat.le_of_ble_eq_true rfl) hr ?_
    refine x_if_eq (pc := 104) 116 dX8_kinds_104 (by decide) (fun c9 => ?_) (fun c9 => ?_)
    · replace h := h.1 c9
      refine x_iinc (pc := 116) (1 : Int32) dX8_kinds_116 (by decide) rfl rfl (by decide +kernel) ?_
      refine x_goto (pc := 119) 73 dX8_kinds_119 (by decide) ?_
      exact h
    · replace h := h.2 c9
      refine x_iload (pc := 107) dX8_kinds_107 rfl ?_
      refine x_iconst (pc := 109) (1 : Int32) dX8_kinds_109 (by decide +kernel) ?_
      refine x_iload (pc := 110) dX8_kinds_110 rfl ?_
      refine x_ishl (pc := 112) dX8_kinds_112 ?_
      refine x_ior (pc := 113) dX8_kinds_113 ?_
      refine x_istore (pc := 114) dX8_kinds_114 (by decide) rfl ?_
      refine x_iinc (pc := 116) (1 : Int32) dX8_kinds_116 (by decide) rfl rfl (by decide +kernel) ?_
      refine x_goto (pc := 119) 73 dX8_kinds_119 (by decide) ?_
      exact h
theorem dX8_fieldsWithChord_0 : decode cX8_fieldsWithChord 0 = .ok (.iconst 0, 1) := by decide +kernel
theorem dX8_fieldsWithChord_1 : decode cX8_fieldsWithChord 1 = .ok (.istore_n 2, 1) := by decide +kernel
theorem dX8_fieldsWithChord_2 : decode cX8_fieldsWithChord 2 = .ok (.iconst 0, 1) := by decide +kernel
theorem dX8_fieldsWithChord_3 : decode cX8_fieldsWithChord 3 = .ok (.istore_n 3, 1) := by decide +kernel
theorem dX8_fieldsWithChord_4 : decode cX8_fieldsWithChord 4 = .ok (.iload_n 3, 1) := by decide +kernel
theorem dX8_fieldsWithChord_5 : decode cX8_fieldsWithChord 5 = .ok (.aload_n 0, 1) := by decide +kernel
theorem dX8_fieldsWithChord_6 : decode cX8_fieldsWithChord 6 = .ok (.getfield 19, 3) := by decide +kernel
theorem dX8_fieldsWithChord_9 : decode cX8_fieldsWithChord 9 = .ok (.getfield 277, 3) := by decide +kernel
theorem dX8_fieldsWithChord_12 : decode cX8_fieldsWithChord 12 = .ok (.if_icmp .ge 54, 3) := by decide +kernel
theorem dX8_fieldsWithChord_15 : decode cX8_fieldsWithChord 15 = .ok (.aload_n 0, 1) := by decide +kernel
theorem dX8_fieldsWithChord_16 : decode cX8_fieldsWithChord 16 = .ok (.getfield 19, 3) := by decide +kernel
theorem dX8_fieldsWithChord_19 : decode cX8_fieldsWithChord 19 = .ok (.getfield 107, 3) := by decide +kernel
theorem dX8_fieldsWithChord_22 : decode cX8_fieldsWithChord 22 = .ok (.iload_n 3, 1) := by decide +kernel
theorem dX8_fieldsWithChord_23 : decode cX8_fieldsWithChord 23 = .ok (.iaload, 1) := by decide +kernel
theorem dX8_fieldsWithChord_24 : decode cX8_fieldsWithChord 24 = .ok (.istore 4, 2) := by decide +kernel
theorem dX8_fieldsWithChord_26 : decode cX8_fieldsWithChord 26 = .ok (.aload_n 0, 1) := by decide +kernel
theorem dX8_fieldsWithChord_27 : decode cX8_fieldsWithChord 27 = .ok (.getfield 48, 3) := by decide +kernel
theorem dX8_fieldsWithChord_30 : decode cX8_fieldsWithChord 30 = .ok (.iload 4, 2) := by decide +kernel
theorem dX8_fieldsWithChord_32 : decode cX8_fieldsWithChord 32 = .ok (.invokevirtual 201, 3) := by decide +kernel
theorem dX8_fieldsWithChord_35 : decode cX8_fieldsWithChord 35 = .ok (.ifCond .eq 25, 3) := by decide +kernel
theorem dX8_fieldsWithChord_38 : decode cX8_fieldsWithChord 38 = .ok (.iload_n 1, 1) := by decide +kernel
theorem dX8_fieldsWithChord_39 : decode cX8_fieldsWithChord 39 = .ok (.ifCond .eq 15, 3) := by decide +kernel
theorem dX8_fieldsWithChord_42 : decode cX8_fieldsWithChord 42 = .ok (.aload_n 0, 1) := by decide +kernel
theorem dX8_fieldsWithChord_43 : decode cX8_fieldsWithChord 43 = .ok (.getfield 48, 3) := by decide +kernel
theorem dX8_fieldsWithChord_46 : decode cX8_fieldsWithChord 46 = .ok (.iload 4, 2) := by decide +kernel
theorem dX8_fieldsWithChord_48 : decode cX8_fieldsWithChord 48 = .ok (.invokevirtual 290, 3) := by decide +kernel
theorem dX8_fieldsWithChord_51 : decode cX8_fieldsWithChord 51 = .ok (.ifCond .ne 9, 3) := by decide +kernel
theorem dX8_fieldsWithChord_54 : decode cX8_fieldsWithChord 54 = .ok (.iload_n 2, 1) := by decide +kernel
theorem dX8_fieldsWithChord_55 : decode cX8_fieldsWithChord 55 = .ok (.iconst 1, 1) := by decide +kernel
theorem dX8_fieldsWithChord_56 : decode cX8_fieldsWithChord 56 = .ok (.iload_n 3, 1) := by decide +kernel
theorem dX8_fieldsWithChord_57 : decode cX8_fieldsWithChord 57 = .ok (.ishl, 1) := by decide +kernel
theorem dX8_fieldsWithChord_58 : decode cX8_fieldsWithChord 58 = .ok (.ior, 1) := by decide +kernel
theorem dX8_fieldsWithChord_59 : decode cX8_fieldsWithChord 59 = .ok (.istore_n 2, 1) := by decide +kernel
theorem dX8_fieldsWithChord_60 : decode cX8_fieldsWithChord 60 = .ok (.iinc 3 1, 3) := by decide +kernel
theorem dX8_fieldsWithChord_63 : decode cX8_fieldsWithChord 63 = .ok (.goto (-59), 3) := by decide +kernel
theorem dX8_fieldsWithChord_66 : decode cX8_fieldsWithChord 66 = .ok (.iload_n 2, 1) := by decide +kernel
theorem dX8_fieldsWithChord_67 : decode cX8_fieldsWithChord 67 = .ok (.ireturn, 1) := by decide +kernel
def R_X8_fieldsWithChord (a1 : Int32) (σ : kS) (x : Int32) (τ : kS) : Prop := Run SX jX8_fieldsWithChord [(.ref 0), (.int a1)] σ (some (.int x)) τ
def E_X8_fieldsWithChord_4 (l1 : Int32) (l2 : Int32) (l3 : Int32) (σ : kS) (x : Int32) (τ : kS) : Prop := Ex SX jX8_fieldsWithChord 4 [some (.ref 0), some (.int l1), some (.int l2), some (.int l3), none] [] σ (some (.int x)) τ
set_option maxRecDepth 20000 in
theorem t_X8_fieldsWithChord {a1 : Int32} {σ : kS} {x : Int32} {τ : kS}  (h : E_X8_fieldsWithChord_4 a1 (0 : Int32) (0 : Int32) σ x τ) : R_X8_fieldsWithChord a1 σ x τ := by
  refine x_run [some (.ref 0), some (.int a1), none, none, none] (by decide +kernel) rfl (Nat.le_of_ble_eq_true rfl) ?_
  refine x_iconst (pc := 0) (0 : Int32) dX8_fieldsWithChord_0 (by decide +kernel) ?_
  refine x_istore_n (pc := 1) 2 dX8_fieldsWithChord_1 rfl (by decide) rfl ?_
  refine x_iconst (pc := 2) (0 : Int32) dX8_fieldsWithChord_2 (by decide +kernel) ?_
  refine x_istore_n (pc := 3) 3 dX8_fieldsWithChord_3 rfl (by decide) rfl ?_
  exact h
set_option maxRecDepth 20000 in
theorem t_X8_fieldsWithChord_4 {l1 : Int32} {l2 : Int32} {l3 : Int32} {σ : kS} {x : Int32} {τ : kS}  (h : ((σ.1 3 1) ≤ l3 → x = l2 ∧ τ = σ) ∧ (¬ (σ.1 3 1) ≤ l3 → vp_in l3 5 ∧ (∃ (x4 : Int32) (s3 : kS), R_X2_isThere (σ.1 5 l3.toNatClampNeg) σ x4 s3 ∧ ((x4 = 0 → E_X8_fieldsWithChord_4 l1 l2 (l3 + (1 : Int32)) s3 x τ) ∧ (¬ x4 = 0 → (l1 = 0 → E_X8_fieldsWithChord_4 l1 (l2 ||| ((1 : Int32) <<< (l3 &&& 31))) (l3 + (1 : Int32)) s3 x τ) ∧ (¬ l1 = 0 → ∃ (x8 : Int32) (s7 : kS), R_X2_missingOf (σ.1 5 l3.toNatClampNeg) s3 x8 s7 ∧ ((¬ x8 = 0 → E_X8_fieldsWithChord_4 l1 l2 (l3 + (1 : Int32)) s7 x τ) ∧ (x8 = 0 → E_X8_fieldsWithChord_4 l1 (l2 ||| ((1 : Int32) <<< (l3 &&& 31))) (l3 + (1 : Int32)) s7 x τ)))))))) : E_X8_fieldsWithChord_4 l1 l2 l3 σ x τ := by
  unfold E_X8_fieldsWithChord_4
  refine x_iload_n (pc := 4) 3 dX8_fieldsWithChord_4 rfl rfl ?_
  refine x_aload_n (pc := 5) 0 dX8_fieldsWithChord_5 rfl rfl ?_
  refine x_getR (pc := 6) dX8_fieldsWithChord_6 fX8_19 rfl rfl ?_
  refine x_getI (pc := 9) dX8_fieldsWithChord_9 fX8_277 rfl rfl ?_
  refine x_icmp_ge (pc := 12) 66 dX8_fieldsWithChord_12 (by decide) (fun c1 => ?_) (fun c1 => ?_)
  · replace h := h.1 c1
    refine x_iload_n (pc := 66) 2 dX8_fieldsWithChord_66 rfl rfl ?_
    exact x_ireturn2 (pc := 67) dX8_fieldsWithChord_67 rfl h.1 h.2
  · replace h := h.2 c1
    refine x_aload_n (pc := 15) 0 dX8_fieldsWithChord_15 rfl rfl ?_
    refine x_getR (pc := 16) dX8_fieldsWithChord_16 fX8_19 rfl rfl ?_
    refine x_getR (pc := 19) dX8_fieldsWithChord_19 fX8_107 rfl rfl ?_
    refine x_iload_n (pc := 22) 3 dX8_fieldsWithChord_22 rfl rfl ?_
    obtain ⟨g2, h⟩ := h
    refine x_iaload (pc := 23) (n := 5) dX8_fieldsWithChord_23 rfl g2 ?_
    refine x_istore (pc := 24) dX8_fieldsWithChord_24 (by decide) rfl ?_
    refine x_aload_n (pc := 26) 0 dX8_fieldsWithChord_26 rfl rfl ?_
    refine x_getR (pc := 27) dX8_fieldsWithChord_27 fX8_48 rfl rfl ?_
    refine x_iload (pc := 30) dX8_fieldsWithChord_30 rfl ?_
    obtain ⟨x4, s3, hr, h⟩ := h
    refine x_callV (pc := 32) [(.int (σ.1 5 l3.toNatClampNeg))] [] dX8_fieldsWithChord_32 ⟨⟨hX2_isThere.1, hX2_isThere.2.1, hX2_isThere.2.2, by decide⟩, mX8_201, vX2_isThere.1, vX2_isThere.2⟩ (ci := 2) rfl rfl rfl rfl (Nat.le_of_ble_eq_true rfl) hr ?_
    refine x_if_eq (pc := 35) 60 dX8_fieldsWithChord_35 (by decide) (fun c5 => ?_) (fun c5 => ?_)
    · replace h := h.1 c5
      refine x_iinc (pc := 60) (1 : Int32) dX8_fieldsWithChord_60 (by decide) rfl rfl (by decide +kernel) ?_
      refine x_goto (pc := 63) 4 dX8_fieldsWithChord_63 (by decide) ?_
      exact x_mask [true, true, true, true, false] h
    · replace h := h.2 c5
      refine x_iload_n (pc := 38) 1 dX8_fieldsWithChord_38 rfl rfl ?_
      refine x_if_eq (pc := 39) 54 dX8_fieldsWithChord_39 (by decide) (fun c6 => ?_) (fun c6 => ?_)
      · replace h := h.1 c6
        refine x_iload_n (pc := 54) 2 dX8_fieldsWithChord_54 rfl rfl ?_
        refine x_iconst (pc := 55) (1 : Int32) dX8_fieldsWithChord_55 (by decide +kernel) ?_
        refine x_iload_n (pc := 56) 3 dX8_fieldsWithChord_56 rfl rfl ?_
        refine x_ishl (pc := 57) dX8_fieldsWithChord_57 ?_
        refine x_ior (pc := 58) dX8_fieldsWithChord_58 ?_
        refine x_istore_n (pc := 59) 2 dX8_fieldsWithChord_59 rfl (by decide) rfl ?_
        refine x_iinc (pc := 60) (1 : Int32) dX8_fieldsWithChord_60 (by decide) rfl rfl (by decide +kernel) ?_
        refine x_goto (pc := 63) 4 dX8_fieldsWithChord_63 (by decide) ?_
        exact x_mask [true, true, true, true, false] h
      · replace h := h.2 c6
        refine x_aload_n (pc := 42) 0 dX8_fieldsWithChord_42 rfl rfl ?_
        refine x_getR (pc := 43) dX8_fieldsWithChord_43 fX8_48 rfl rfl ?_
        refine x_iload (pc := 46) dX8_fieldsWithChord_46 rfl ?_
        obtain ⟨x8, s7, hr, h⟩ := h
        refine x_callV (pc := 48) [(.int (σ.1 5 l3.toNatClampNeg))] [] dX8_fieldsWithChord_48 ⟨⟨hX2_missingOf.1, hX2_missingOf.2.1, hX2_missingOf.2.2, by decide⟩, mX8_290, vX2_missingOf.1, vX2_missingOf.2⟩ (ci := 2) rfl rfl rfl rfl (Nat.le_of_ble_eq_true rfl) hr ?_
        refine x_if_ne (pc := 51) 60 dX8_fieldsWithChord_51 (by decide) (fun c9 => ?_) (fun c9 => ?_)
        · replace h := h.1 c9
          refine x_iinc (pc := 60) (1 : Int32) dX8_fieldsWithChord_60 (by decide) rfl rfl (by decide +kernel) ?_
          refine x_goto (pc := 63) 4 dX8_fieldsWithChord_63 (by decide) ?_
          exact x_mask [true, true, true, true, false] h
        · replace h := h.2 c9
          refine x_iload_n (pc := 54) 2 dX8_fieldsWithChord_54 rfl rfl ?_
          refine x_iconst (pc := 55) (1 : Int32) dX8_fieldsWithChord_55 (by decide +kernel) ?_
          refine x_iload_n (pc := 56) 3 dX8_fieldsWithChord_56 rfl rfl ?_
          refine x_ishl (pc := 57) dX8_fieldsWithChord_57 ?_
          refine x_ior (pc := 58) dX8_fieldsWithChord_58 ?_
          refine x_istore_n (pc := 59) 2 dX8_fieldsWithChord_59 rfl (by decide) rfl ?_
          refine x_iinc (pc := 60) (1 : Int32) dX8_fieldsWithChord_60 (by decide) rfl rfl (by decide +kernel) ?_
          refine x_goto (pc := 63) 4 dX8_fieldsWithChord_63 (by decide) ?_
          exact x_mask [true, true, true, true, false] h
theorem dX8_count_0 : decode cX8_count 0 = .ok (.iload_n 1, 1) := by decide +kernel
theorem dX8_count_1 : decode cX8_count 1 = .ok (.tableswitch 119 0 8 #[51, 59, 67, 75, 83, 91, 97, 103, 111], 51) := by decide +kernel
theorem dX8_count_52 : decode cX8_count 52 = .ok (.aload_n 0, 1) := by decide +kernel
theorem dX8_count_53 : decode cX8_count 53 = .ok (.getfield 19, 3) := by decide +kernel
theorem dX8_count_56 : decode cX8_count 56 = .ok (.getfield 93, 3) := by decide +kernel
theorem dX8_count_59 : decode cX8_count 59 = .ok (.ireturn, 1) := by decide +kernel
theorem dX8_count_60 : decode cX8_count 60 = .ok (.aload_n 0, 1) := by decide +kernel
theorem dX8_count_61 : decode cX8_count 61 = .ok (.getfield 19, 3) := by decide +kernel
theorem dX8_count_64 : decode cX8_count 64 = .ok (.getfield 277, 3) := by decide +kernel
theorem dX8_count_67 : decode cX8_count 67 = .ok (.ireturn, 1) := by decide +kernel
theorem dX8_count_68 : decode cX8_count 68 = .ok (.aload_n 0, 1) := by decide +kernel
theorem dX8_count_69 : decode cX8_count 69 = .ok (.getfield 19, 3) := by decide +kernel
theorem dX8_count_72 : decode cX8_count 72 = .ok (.getfield 96, 3) := by decide +kernel
theorem dX8_count_75 : decode cX8_count 75 = .ok (.ireturn, 1) := by decide +kernel
theorem dX8_count_76 : decode cX8_count 76 = .ok (.aload_n 0, 1) := by decide +kernel
theorem dX8_count_77 : decode cX8_count 77 = .ok (.getfield 19, 3) := by decide +kernel
theorem dX8_count_80 : decode cX8_count 80 = .ok (.getfield 147, 3) := by decide +kernel
theorem dX8_count_83 : decode cX8_count 83 = .ok (.ireturn, 1) := by decide +kernel
theorem dX8_count_84 : decode cX8_count 84 = .ok (.aload_n 0, 1) := by decide +kernel
theorem dX8_count_85 : decode cX8_count 85 = .ok (.getfield 19, 3) := by decide +kernel
theorem dX8_count_88 : decode cX8_count 88 = .ok (.invokevirtual 179, 3) := by decide +kernel
theorem dX8_count_91 : decode cX8_count 91 = .ok (.ireturn, 1) := by decide +kernel
theorem dX8_count_92 : decode cX8_count 92 = .ok (.aload_n 0, 1) := by decide +kernel
theorem dX8_count_93 : decode cX8_count 93 = .ok (.iconst 0, 1) := by decide +kernel
theorem dX8_count_94 : decode cX8_count 94 = .ok (.invokevirtual 280, 3) := by decide +kernel
theorem dX8_count_97 : decode cX8_count 97 = .ok (.ireturn, 1) := by decide +kernel
theorem dX8_count_98 : decode cX8_count 98 = .ok (.aload_n 0, 1) := by decide +kernel
theorem dX8_count_99 : decode cX8_count 99 = .ok (.iconst 1, 1) := by decide +kernel
theorem dX8_count_100 : decode cX8_count 100 = .ok (.invokevirtual 280, 3) := by decide +kernel
theorem dX8_count_103 : decode cX8_count 103 = .ok (.ireturn, 1) := by decide +kernel
theorem dX8_count_104 : decode cX8_count 104 = .ok (.aload_n 0, 1) := by decide +kernel
theorem dX8_count_105 : decode cX8_count 105 = .ok (.getfield 33, 3) := by decide +kernel
theorem dX8_count_108 : decode cX8_count 108 = .ok (.getfield 166, 3) := by decide +kernel
theorem dX8_count_111 : decode cX8_count 111 = .ok (.ireturn, 1) := by decide +kernel
theorem dX8_count_112 : decode cX8_count 112 = .ok (.aload_n 0, 1) := by decide +kernel
theorem dX8_count_113 : decode cX8_count 113 = .ok (.getfield 10, 3) := by decide +kernel
theorem dX8_count_116 : decode cX8_count 116 = .ok (.getfield 74, 3) := by decide +kernel
theorem dX8_count_119 : decode cX8_count 119 = .ok (.ireturn, 1) := by decide +kernel
theorem dX8_count_120 : decode cX8_count 120 = .ok (.iconst (-1), 1) := by decide +kernel
theorem dX8_count_121 : decode cX8_count 121 = .ok (.ireturn, 1) := by decide +kernel
def R_X8_count (a1 : Int32) (σ : kS) (x : Int32) (τ : kS) : Prop := Run SX jX8_count [(.ref 0), (.int a1)] σ (some (.int x)) τ
set_option maxRecDepth 20000 in
theorem t_X8_count {a1 : Int32} {σ : kS} {x : Int32} {τ : kS}  (h : (a1.toInt = 0 → x = (σ.1 3 2) ∧ τ = σ) ∧ (a1.toInt = 1 → x = (σ.1 3 1) ∧ τ = σ) ∧ (a1.toInt = 2 → x = (σ.1 3 0) ∧ τ = σ) ∧ (a1.toInt = 3 → x = (σ.1 3 3) ∧ τ = σ) ∧ (a1.toInt = 4 → ∃ (x3 : Int32) (s2 : kS), R_X7_tiredInAll 3 σ x3 s2 ∧ (x = x3 ∧ τ = s2)) ∧ (a1.toInt = 5 → ∃ (x5 : Int32) (s4 : kS), R_X8_fieldsWithChord (0 : Int32) σ x5 s4 ∧ (x = x5 ∧ τ = s4)) ∧ (a1.toInt = 6 → ∃ (x7 : Int32) (s6 : kS), R_X8_fieldsWithChord (1 : Int32) σ x7 s6 ∧ (x = x7 ∧ τ = s6)) ∧ (a1.toInt = 7 → x = (σ.1 20 0) ∧ τ = σ) ∧ (a1.toInt = 8 → x = (σ.1 1 1) ∧ τ = σ) ∧ ((a1.toInt < 0 ∨ 8 < a1.toInt) → x = (-1 : Int32) ∧ τ = σ)) : R_X8_count a1 σ x τ := by
  refine x_run [some (.ref 0), some (.int a1)] (by decide +kernel) rfl (Nat.le_of_ble_eq_true rfl) ?_
  refine x_iload_n (pc := 0) 1 dX8_count_0 rfl rfl ?_
  refine x_table (pc := 1) 120 dX8_count_1 (by decide +kernel) (by decide +kernel) (by decide) (k_tb_cons (fun c1 => ?_) (k_tb_cons (fun c1 => ?_) (k_tb_cons (fun c1 => ?_) (k_tb_cons (fun c1 => ?_) (k_tb_cons (fun c1 => ?_) (k_tb_cons (fun c1 => ?_) (k_tb_cons (fun c1 => ?_) (k_tb_cons (fun c1 => ?_) (k_tb_cons (fun c1 => ?_) k_tb_nil))))))))) (fun c1 => ?_)
  · replace h := h.1 c1
    refine x_aload_n (pc := 52) 0 dX8_count_52 rfl rfl ?_
    refine x_getR (pc := 53) dX8_count_53 fX8_19 rfl rfl ?_
    refine x_getI (pc := 56) dX8_count_56 fX8_93 rfl rfl ?_
    exact x_ireturn2 (pc := 59) dX8_count_59 rfl h.1 h.2
  · replace h := h.2.1 c1
    refine x_aload_n (pc := 60) 0 dX8_count_60 rfl rfl ?_
    refine x_getR (pc := 61) dX8_count_61 fX8_19 rfl rfl ?_
    refine x_getI (pc := 64) dX8_count_64 fX8_277 rfl rfl ?_
    exact x_ireturn2 (pc := 67) dX8_count_67 rfl h.1 h.2
  · replace h := h.2.2.1 c1
    refine x_aload_n (pc := 68) 0 dX8_count_68 rfl rfl ?_
    refine x_getR (pc := 69) dX8_count_69 fX8_19 rfl rfl ?_
    refine x_getI (pc := 72) dX8_count_72 fX8_96 rfl rfl ?_
    exact x_ireturn2 (pc := 75) dX8_count_75 rfl h.1 h.2
  · replace h := h.2.2.2.1 c1
    refine x_aload_n (pc := 76) 0 dX8_count_76 rfl rfl ?_
    refine x_getR (pc := 77) dX8_count_77 fX8_19 rfl rfl ?_
    refine x_getI (pc := 80) dX8_count_80 fX8_147 rfl rfl ?_
    exact x_ireturn2 (pc := 83) dX8_count_83 rfl h.1 h.2
  · replace h := h.2.2.2.2.1 c1
    refine x_aload_n (pc := 84) 0 dX8_count_84 rfl rfl ?_
    refine x_getR (pc := 85) dX8_count_85 fX8_19 rfl rfl ?_
    obtain ⟨x3, s2, hr, h⟩ := h
    refine x_callV (pc := 88) [] [] dX8_count_88 ⟨⟨hX7_tiredInAll.1, hX7_tiredInAll.2.1, hX7_tiredInAll.2.2, by decide⟩, mX8_179, vX7_tiredInAll.1, vX7_tiredInAll.2⟩ (ci := 7) rfl rfl rfl rfl (Nat.le_of_ble_eq_true rfl) hr ?_
    exact x_ireturn2 (pc := 91) dX8_count_91 rfl h.1 h.2
  · replace h := h.2.2.2.2.2.1 c1
    refine x_aload_n (pc := 92) 0 dX8_count_92 rfl rfl ?_
    refine x_iconst (pc := 93) (0 : Int32) dX8_count_93 (by decide +kernel) ?_
    obtain ⟨x5, s4, hr, h⟩ := h
    refine x_callV (pc := 94) [(.int (0 : Int32))] [] dX8_count_94 ⟨⟨hX8_fieldsWithChord.1, hX8_fieldsWithChord.2.1, hX8_fieldsWithChord.2.2, by decide⟩, mX8_280, vX8_fieldsWithChord.1, vX8_fieldsWithChord.2⟩ (ci := 8) rfl rfl rfl rfl (Nat.le_of_ble_eq_true rfl) hr ?_
    exact x_ireturn2 (pc := 97) dX8_count_97 rfl h.1 h.2
  · replace h := h.2.2.2.2.2.2.1 c1
    refine x_aload_n (pc := 98) 0 dX8_count_98 rfl rfl ?_
    refine x_iconst (pc := 99) (1 : Int32) dX8_count_99 (by decide +kernel) ?_
    obtain ⟨x7, s6, hr, h⟩ := h
    refine x_callV (pc := 100) [(.int (1 : Int32))] [] dX8_count_100 ⟨⟨hX8_fieldsWithChord.1, hX8_fieldsWithChord.2.1, hX8_fieldsWithChord.2.2, by decide⟩, mX8_280, vX8_fieldsWithChord.1, vX8_fieldsWithChord.2⟩ (ci := 8) rfl rfl rfl rfl (Nat.le_of_ble_eq_true rfl) hr ?_
    exact x_ireturn2 (pc := 103) dX8_count_103 rfl h.1 h.2
  · replace h := h.2.2.2.2.2.2.2.1 c1
    refine x_aload_n (pc := 104) 0 dX8_count_104 rfl rfl ?_
    refine x_getR (pc := 105) dX8_count_105 fX8_33 rfl rfl ?_
    refine x_getI (pc := 108) dX8_count_108 fX8_166 rfl rfl ?_
    exact x_ireturn2 (pc := 111) dX8_count_111 rfl h.1 h.2
  · replace h := h.2.2.2.2.2.2.2.2.1 c1
    refine x_aload_n (pc := 112) 0 dX8_count_112 rfl rfl ?_
    refine x_getR (pc := 113) dX8_count_113 fX8_10 rfl rfl ?_
    refine x_getI (pc := 116) dX8_count_116 fX8_74 rfl rfl ?_
    exact x_ireturn2 (pc := 119) dX8_count_119 rfl h.1 h.2
  · replace h := h.2.2.2.2.2.2.2.2.2 c1
    refine x_iconst (pc := 120) (-1 : Int32) dX8_count_120 (by decide +kernel) ?_
    exact x_ireturn2 (pc := 121) dX8_count_121 rfl h.1 h.2
