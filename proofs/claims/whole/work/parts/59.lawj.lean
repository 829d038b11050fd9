/-! THE LAW'S FRAME: two worlds beside each other, the script read only -/
def l_A (s : State) : Nat → Prop := fun q => s.heap.size ≤ q
def l_ad (b x y : Nat) : Nat → Nat := fun k => if k = 0 then b else if k = 1 then x else y
def l_ev (s : State) (D : va_G) (cA : Nat → ClassId) (aX aM : Nat → Nat) : Prop := va_K D vwCl (k_ty cA) s ∧ k_nw s ∧ k_st (l_A s) aX s s.heap ∧ k_st (l_A s) aM s s.heap ∧ (∀ σ, va_D (l_A s) (k_wd SX cA aX σ)) ∧ (∀ σ, va_D (l_A s) (k_wd SM cA aM σ)) ∧ (∀ i, i < SX.length → ∀ j, j < SM.length → aX i ≠ aM j)
def LEx (pc : Nat) (i : Int32) (st : List Value) (L : Nat) (xs : Nat → Int32) (σ μ : kS) : Prop :=
  ∀ (p : Program) (l : Launch) (e : Env) (s : State) (m : MethodId) (below : List Frame) (meth : Method) (c : Code) (b : Nat) (D : va_G) (cA : Nat → ClassId) (aX aM : Nat → Nat) (H : Heap) (locs : List Loc) (ls : Array Slot),
    lw_At p s m meth c b L xs → l_ev s D cA aX aM → va_P D vwCl (k_wd SX cA aX σ) H → va_P D vwCl (k_wd SM cA aM μ) H → va_S (l_A s) s.heap H locs → lv_has ls 4 [(0, .ref b), (1, .ref (aX 0)), (2, .ref (aM 0)), (3, .int i)] →
    W p l e room_1 s m #[Value.ref b] below meth c H locs 78 10459 (lw_Z below #[Value.ref b] s) (F0 m pc ls (st.map (k_cv (l_ad b (aX 0) (aM 0)))))
/-- a callee of the law -/
def l_cl (idx : Nat) (h : kM) (n : Nat) : Prop := (Cond.code h.1 h.2.1 h.2.2.1 h.2.2.2.1 ∈ k_ws ∧ Cond.initialized h.1.cls ∈ k_ws ∧ (h.1.cls ≠ "java/lang/invoke/MethodHandle" ∧ h.1.cls ≠ "java/lang/invoke/VarHandle" ∧ (parseMethodDescriptor h.1.desc).map (fun d => d.parameters.length) = some n)) ∧ (Cond.instanceMethod h.1 ∈ k_ws ∧ Cond.selects h.1.cls h.1 h.1 ∈ k_ws) ∧ (h.2.2.2.2.1 + 1 ≤ 9 ∧ 8 + (h.2.2.1 + 11) + h.2.2.2.2.2 ≤ 344) ∧ Cond.methodLink R_law idx h.1 ∈ k_ws
theorem l_good {h : kM} (hc : Cond.code h.1 h.2.1 h.2.2.1 h.2.2.2.1 ∈ k_ws) : GoodIn lw_tbl (Cond.code h.1 h.2.1 h.2.2.1 h.2.2.2.1 :: k_ws) := by
  intro w hw
  rcases List.mem_cons.mp hw with e | h2
  · subst e
    exact ⟨(List.mem_filter.mp hc).1, good_of_word (k_ws_good _ hc)⟩
  · exact ⟨(List.mem_filter.mp h2).1, good_of_word (k_ws_good _ h2)⟩
theorem l_sub {s : State} {S : kH} {cA : Nat → ClassId} {ad : Nat → Nat} {σ : kS} {H : Heap} {locs : List Loc} (hD : va_D (l_A s) (k_wd S cA ad σ)) (hS : va_S (l_A s) s.heap H locs) : ∀ q, k_A ad S.length H.size q → l_A s q := by
  intro q hq
  rcases hq with ⟨k, hk, rfl⟩ | hq
  · exact hD.2 k _ (k_wd_at (List.getElem?_eq_getElem hk))
  · exact Nat.le_trans hS.1 hq
/-- a call out of the law: the callee's world S, the other one S1 stays -/
theorem l_core {p : Program} {l : Launch} {e : Env} {s : State} {m : MethodId} {below : List Frame} {meth : Method} {c : Code} {b L : Nat} {xs : Nat → Int32} {D : va_G} {cA : Nat → ClassId} {S S1 : kH} {ad ad1 : Nat → Nat} {σ υ μ : kS} {H : Heap} {locs : List Loc} {ls : Array Slot} {pc idx n ci N : Nat} {T : u_T} {h : kM} {As rest : List Value} {r1 : Option Value} {Q : State → Prop}
    (C0 : lw_At p s m meth c b L xs) (hK : va_K D vwCl (k_ty cA) s) (hN : k_nw s) (hT : k_st (l_A s) ad s s.heap) (hD : ∀ σ, va_D (l_A s) (k_wd S cA ad σ)) (hap : ∀ i, i < S.length → ∀ j, j < S1.length → ad i ≠ ad1 j) (hP : va_P D vwCl (k_wd S cA ad σ) H) (hP1 : va_P D vwCl (k_wd S1 cA ad1 μ) H) (hS : va_S (l_A s) s.heap H locs) (hls : ls.size = 4)
    (d : decode code pc = .ok (.invokevirtual idx, 3)) (hw : l_cl idx h n) (hcl : vwCl[ci]? = some (h.1.cls, T, N)) (hb0 : k_is S 0 0 ci = true) (hn : As.length = n) (hpl : As.map (k_cv ad) = As) (hc : (rest.map fun v => v.category).sum ≤ 8) (hr : r1.map (k_cv ad) = r1)
    (hM : Run S h (.ref 0 :: As) σ r1 υ) (kk : ∀ (H1 : Heap) (locs1 : List Loc), va_P D vwCl (k_wd S cA ad υ) H1 → va_P D vwCl (k_wd S1 cA ad1 μ) H1 → va_S (l_A s) s.heap H1 locs1 → W p l e room_1 s m #[Value.ref b] below meth c H1 locs1 78 10459 Q (F0 m (pc + 3) ls (r1.toList ++ rest))) :
    W p l e room_1 s m #[Value.ref b] below meth c H locs 78 10459 Q (F0 m pc ls (As.reverse ++ .ref (ad 0) :: rest)) := by
  obtain ⟨hx, hb, hrt, hml, hown, hts, hX, hbl, hlocks, hgv⟩ := C0
  obtain ⟨⟨w1, w2, w3⟩, ⟨w4, w5⟩, w6, w7⟩ := hw
  have wd : ∀ w ∈ k_ws, w.before #[Value.ref b] s = true := fun w h => hts w (List.mem_filter.mp h).1
  obtain ⟨fs, h3⟩ := k_is_spec hb0
  have hsub := l_sub (hD σ) hS
  have hRun : va_Run p l e room_1 s m #[Value.ref b] below meth c H locs 78 10459 0 0 (F0 m pc ls (As.reverse ++ .ref (ad 0) :: rest)) rest (k_Q S D cA ad r1 υ (Value.ref (ad 0) :: As).toArray) (k_A ad S.length H.size) := by
    refine va_runV (C := h.1.cls) (As := As) (nL := 4) (Ts := lw_tbl) ⟨hx, hb, hml, hown, hts⟩ (hM l D cA ad H.size) ⟨callB_of n hts (l_good w1) rfl rfl rfl (wd _ w2) (wd _ w7) w3 w6, wd _ w4, wd _ w5⟩ ⟨k_blind, va_recv hK hP hcl (k_wd_at h3), fun U hU hW => ⟨?_, by rw [hU], by rw [hU]; exact hP, va_K.moved hW.alike hK, k_DA (hD σ) (fun k hk => Or.inl ⟨k, hk, rfl⟩), k_nw_warm hW hN, fun q hq => ?_⟩⟩ rfl hn hls rfl (lv_room hc) d ⟨by decide, by decide⟩
    · show (Value.ref (ad 0) :: As).toArray = (Value.ref (ad 0) :: As.map (k_cv ad)).toArray
      rw [hpl]
    · obtain ⟨h1, h2⟩ := hT q hq
      rw [hU]
      exact ⟨((h1.moved hW.alike).kept (fun a ha hA => hS.2.1 a ha hA)).narrow hsub, ((h2.moved hW.alike).kept (fun a ha hA => hS.2.1 a ha hA)).narrow hsub⟩
  intro T0 hT0 X
  obtain ⟨v, st₀, t, T', L1, h0, X', hL, e1, e2, ⟨⟨hv, hp⟩, hz, hk⟩, st⟩ := hRun T0 hT0 X
  cases hv
  rw [h0] at hz hk
  have hs1 : va_S (l_A s) s.heap T'.heap (locs ++ L1) := ⟨Nat.le_trans hS.1 (by rw [e1]; exact hz), fun q h1 h2 => by rw [e1, hk q (Nat.lt_of_lt_of_le h1 hS.1) (fun z => h2 (hsub q z))]; exact hS.2.1 q h1 h2, fun q hq => by
    rcases List.mem_append.mp hq with h | h
    · exact hS.2.2 q h
    · exact hsub _ (hL q h)⟩
  have hp1 : va_P D vwCl (k_wd S1 cA ad1 μ) T'.heap := by
    refine hP1.kept (fun k q hq => ?_)
    have hlt := (hP1 k q hq).lt
    obtain ⟨g1, g2⟩ := k_wd_lt hq
    rw [e1]
    refine hk q.1 hlt (fun z => ?_)
    rcases z with ⟨i, hi, z⟩ | z
    · exact hap i hi k g1 (by rw [← z, g2])
    · omega
  obtain ⟨t2, a1, b1⟩ := kk T'.heap (locs ++ L1) (by rw [e1]; exact hp) hp1 hs1 T' rfl X'
  refine ⟨t2, st t2 ?_, b1⟩
  rw [hr]
  exact a1
def l_pl (v : Value) : Bool := match v with
  | .ref _ => false
  | _ => true
theorem l_pl_cv {ad : Nat → Nat} {v : Value} (h : l_pl v = true) : k_cv ad v = v := by
  cases v <;> first | rfl | cases h
theorem l_pl_map {ad : Nat → Nat} {As : List Value} (h : As.all l_pl = true) : As.map (k_cv ad) = As := by
  rw [List.all_eq_true] at h
  exact (List.map_congr_left (fun v hv => l_pl_cv (h v hv))).trans (List.map_id As)
theorem l_pl_opt {ad : Nat → Nat} {r : Option Value} (h : r.toList.all l_pl = true) : r.map (k_cv ad) = r := by
  cases r with
  | none => rfl
  | some v => simp at h; simp [l_pl_cv h]
section
variable {pc L : Nat} {i : Int32} {st : List Value} {xs : Nat → Int32} {σ μ : kS}
theorem l_callX {υ : kS} {r1 : Option Value} {idx n : Nat} {h : kM} (As rest : List Value) (d : decode code pc = .ok (.invokevirtual idx, 3)) (hw : l_cl idx h n) (hcl : h.1.cls = RX8) (hst : st = As.reverse ++ .ref 1 :: rest) (hn : As.length = n) (hpl : As.all l_pl = true) (hc : k_cat rest ≤ 8) (hr : r1.toList.all l_pl = true) (hM : Run SX h (.ref 0 :: As) σ r1 υ) (k : LEx (pc + 3) i (r1.toList ++ rest) L xs υ μ) : LEx pc i st L xs σ μ := by
  intro p l e s m below meth c b D cA aX aM H locs ls C0 E hP hP1 hS hl
  obtain ⟨e1, e2, e3, e4, e5, e6, e7⟩ := E
  rw [hst, List.map_append, List.map_reverse, l_pl_map hpl, List.map_cons]
  refine l_core (ci := 8) (T := TX8) (N := 10) (S1 := SM) (ad1 := aM) (μ := μ) C0 e1 e2 e3 e5 e7 hP hP1 hS hl.1 d hw (by rw [hcl]; rfl) rfl hn (l_pl_map hpl) (by rw [k_cat_cv]; exact hc) (l_pl_opt hr) hM (fun H1 locs1 hP hP1 hS => ?_)
  have := k p l e s m below meth c b D cA aX aM H1 locs1 ls C0 ⟨e1, e2, e3, e4, e5, e6, e7⟩ hP hP1 hS hl
  rw [List.map_append, l_pl_map hr] at this
  exact this
theorem l_callM {υ : kS} {r1 : Option Value} {idx n : Nat} {h : kM} (As rest : List Value) (d : decode code pc = .ok (.invokevirtual idx, 3)) (hw : l_cl idx h n) (hcl : h.1.cls = RX9) (hst : st = As.reverse ++ .ref 2 :: rest) (hn : As.length = n) (hpl : As.all l_pl = true) (hc : k_cat rest ≤ 8) (hr : r1.toList.all l_pl = true) (hM : Run SM h (.ref 0 :: As) μ r1 υ) (k : LEx (pc + 3) i (r1.toList ++ rest) L xs σ υ) : LEx pc i st L xs σ μ := by
  intro p l e s m below meth c b D cA aX aM H locs ls C0 E hP hP1 hS hl
  obtain ⟨e1, e2, e3, e4, e5, e6, e7⟩ := E
  rw [hst, List.map_append, List.map_reverse, l_pl_map hpl, List.map_cons]
  refine l_core (ci := 9) (T := TX9) (N := 19) (S1 := SX) (ad1 := aX) (μ := σ) C0 e1 e2 e4 e6 (fun i hi j hj z => e7 j hj i hi z.symm) hP1 hP hS hl.1 d hw (by rw [hcl]; rfl) rfl hn (l_pl_map hpl) (by rw [k_cat_cv]; exact hc) (l_pl_opt hr) hM (fun H1 locs1 hP1 hP hS => ?_)
  have := k p l e s m below meth c b D cA aX aM H1 locs1 ls C0 ⟨e1, e2, e3, e4, e5, e6, e7⟩ hP hP1 hS hl
  rw [List.map_append, l_pl_map hr] at this
  exact this
/-! its other instructions -/
theorem l_aload1 (d : decode code pc = .ok (.aload_n 1, 1)) (k : LEx (pc + 1) i (.ref 1 :: st) L xs σ μ) : LEx pc i st L xs σ μ := by
  intro p l e s m below meth c b D cA aX aM H locs ls C0 E hP hP1 hS hl
  exact lv_aload_n C0.1 C0.2.1 d rfl (lv_at hl 1 rfl) (k p l e s m below meth c b D cA aX aM H locs ls C0 E hP hP1 hS hl)
theorem l_aload2 (d : decode code pc = .ok (.aload_n 2, 1)) (k : LEx (pc + 1) i (.ref 2 :: st) L xs σ μ) : LEx pc i st L xs σ μ := by
  intro p l e s m below meth c b D cA aX aM H locs ls C0 E hP hP1 hS hl
  exact lv_aload_n C0.1 C0.2.1 d rfl (lv_at hl 2 rfl) (k p l e s m below meth c b D cA aX aM H locs ls C0 E hP hP1 hS hl)
abbrev l_d5 (pc : Nat) (z : Int) : Prop := decode code pc = .ok (.aload_n 0, 1) ∧ decode code (pc + 1) = .ok (.iload_n 3, 1) ∧ decode code (pc + 1 + 1) = .ok (.iconst z, 1) ∧ decode code (pc + 1 + 1 + 1) = .ok (.iadd, 1) ∧ decode code (pc + 1 + 1 + 1 + 1) = .ok (.iaload, 1)
/-- script[i + n] -/
theorem l_arg {z : Int} (j n : Nat) (d : l_d5 pc z) (hz : Int32.ofInt z = nI n) (hj : j + n < L) (hL : L ≤ 3072) (k : LEx (pc + 5) (nI j) (.int (xs (j + n)) :: st) L xs σ μ) : LEx pc (nI j) st L xs σ μ := by
  intro p l e s m below meth c b D cA aX aM H locs ls C0 E hP hP1 hS hl
  have hbA : ¬ l_A s b := Nat.not_le.mpr C0.2.2.2.2.2.2.2.1
  refine lv_aload_n C0.1 C0.2.1 d.1 rfl (lv_at hl 0 rfl) ?_
  refine lv_iload_n C0.1 C0.2.1 d.2.1 rfl (lv_at hl 3 rfl) ?_
  refine lv_iconst C0.1 C0.2.1 d.2.2.1 hz ?_
  refine lv_iadd C0.1 C0.2.1 d.2.2.2.1 ?_
  rw [nI_add]
  refine va_sld C0.1 C0.2.1 C0.2.2.2.2.2.2.1 C0.2.2.2.2.2.2.2.1 hbA hS (vp_in_nI hj (by omega)) d.2.2.2.2 ?_
  rw [nI_clamp (by omega)]
  exact k p l e s m below meth c b D cA aX aM H locs ls C0 E hP hP1 hS hl
theorem l_i2l {x : Int32} (d : decode code pc = .ok (.i2l, 1)) (k : LEx (pc + 1) i (.long x.toInt64 :: st) L xs σ μ) : LEx pc i (.int x :: st) L xs σ μ := by
  intro p l e s m below meth c b D cA aX aM H locs ls C0 E hP hP1 hS hl
  exact lv_i2l C0.1 C0.2.1 d rfl (k p l e s m below meth c b D cA aX aM H locs ls C0 E hP hP1 hS hl)
theorem l_bipush {n : Int} (v : Int32) (d : decode code pc = .ok (.bipush n, 2)) (hv : (Int8.ofInt n).toInt32 = v) (k : LEx (pc + 2) i (.int v :: st) L xs σ μ) : LEx pc i st L xs σ μ := by
  intro p l e s m below meth c b D cA aX aM H locs ls C0 E hP hP1 hS hl
  exact lv_bipush C0.1 C0.2.1 d hv (k p l e s m below meth c b D cA aX aM H locs ls C0 E hP hP1 hS hl)
theorem l_lshl {x : Int64} {y : Int32} (d : decode code pc = .ok (.lshl, 1)) (k : LEx (pc + 1) i (.long (x <<< (y.toInt64 &&& 63)) :: st) L xs σ μ) : LEx pc i (.int y :: .long x :: st) L xs σ μ := by
  intro p l e s m below meth c b D cA aX aM H locs ls C0 E hP hP1 hS hl
  exact lv_lshl C0.1 C0.2.1 d rfl (k p l e s m below meth c b D cA aX aM H locs ls C0 E hP hP1 hS hl)
theorem l_land {x y : Int64} (d : decode code pc = .ok (.land, 1)) (k : LEx (pc + 1) i (.long (x &&& y) :: st) L xs σ μ) : LEx pc i (.long y :: .long x :: st) L xs σ μ := by
  intro p l e s m below meth c b D cA aX aM H locs ls C0 E hP hP1 hS hl
  exact lv_land C0.1 C0.2.1 d (k p l e s m below meth c b D cA aX aM H locs ls C0 E hP hP1 hS hl)
theorem l_lor {x y : Int64} (d : decode code pc = .ok (.lor, 1)) (k : LEx (pc + 1) i (.long (x ||| y) :: st) L xs σ μ) : LEx pc i (.long y :: .long x :: st) L xs σ μ := by
  intro p l e s m below meth c b D cA aX aM H locs ls C0 E hP hP1 hS hl
  exact lv_lor C0.1 C0.2.1 d (k p l e s m below meth c b D cA aX aM H locs ls C0 E hP hP1 hS hl)
theorem l_ldc2 {n : Nat} {v : Int64} (d : decode code pc = .ok (.ldc2_w n, 3)) (hw : Cond.constantLong R_law n v ∈ lw_tbl) (k : LEx (pc + 3) i (.long v :: st) L xs σ μ) : LEx pc i st L xs σ μ := by
  intro p l e s m below meth c b D cA aX aM H locs ls C0 E hP hP1 hS hl
  exact lv_ldc2 C0.1 C0.2.1 C0.2.2.2.2.1 (C0.2.2.2.2.2.1 _ hw) d (k p l e s m below meth c b D cA aX aM H locs ls C0 E hP hP1 hS hl)
/-- the same answers -/
theorem l_same {x : Int32} {off : Int} (tgt : Nat) (d : decode code pc = .ok (.if_icmp .eq off, 3)) (ht : (pc : Int) + off = (tgt : Int)) (k : LEx tgt i st L xs σ μ) : LEx pc i (.int x :: .int x :: st) L xs σ μ := by
  intro p l e s m below meth c b D cA aX aM H locs ls C0 E hP hP1 hS hl
  exact lv_icmp_eq C0.1 C0.2.1 d ht (fun _ => k p l e s m below meth c b D cA aX aM H locs ls C0 E hP hP1 hS hl) (fun c9 => absurd rfl c9)
theorem l_sameL {x : Int64} {off : Int} (tgt : Nat) (d0 : decode code pc = .ok (.lcmp, 1)) (d : decode code (pc + 1) = .ok (.ifCond .eq off, 3)) (ht : ((pc + 1 : Nat) : Int) + off = (tgt : Int)) (k : LEx tgt i st L xs σ μ) : LEx pc i (.long x :: .long x :: st) L xs σ μ := by
  intro p l e s m below meth c b D cA aX aM H locs ls C0 E hP hP1 hS hl
  refine W.lcmp C0.1 C0.2.1 d0 ?_
  have h0 : lg_cmp x x = 0 := by
    unfold lg_cmp
    rw [if_neg (by simp [Int64.lt_iff_toInt_lt]), if_pos rfl]
  exact lv_if_eq C0.1 C0.2.1 d ht (fun _ => k p l e s m below meth c b D cA aX aM H locs ls C0 E hP hP1 hS hl) (fun c9 => absurd h0 c9)
end
