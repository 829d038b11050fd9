/-! from the entry (wip/gen/start.py) -/
theorem si_0 : Cond.instantiable RX0 5 ∈ k_ws := by decide +kernel
theorem si_1 : Cond.instantiable RX1 2 ∈ k_ws := by decide +kernel
theorem si_2 : Cond.instantiable RX2 2 ∈ k_ws := by decide +kernel
theorem si_3 : Cond.instantiable RX3 5 ∈ k_ws := by decide +kernel
theorem si_4 : Cond.instantiable RX4 3 ∈ k_ws := by decide +kernel
theorem si_5 : Cond.instantiable RX5 6 ∈ k_ws := by decide +kernel
theorem si_6 : Cond.instantiable RX6 3 ∈ k_ws := by decide +kernel
theorem si_7 : Cond.instantiable RX7 11 ∈ k_ws := by decide +kernel
theorem si_8 : Cond.instantiable RX8 10 ∈ k_ws := by decide +kernel
theorem si_9 : Cond.instantiable RX9 19 ∈ k_ws := by decide +kernel
theorem st_1 : ∀ q ∈ k_nwM, Cond.methodLinkNest q.1 q.2.1 q.2.2.1 q.2.2.2 ∈ lw_tbl := by decide +kernel
theorem st_2 : ∀ q ∈ k_nwF, Cond.fieldLinkNest q.1 q.2.1 q.2.2.1 q.2.2.2.1 q.2.2.2.2.1 q.2.2.2.2.2 ∈ lw_tbl := by decide +kernel
theorem st_3 : ∀ q ∈ k_nwC, Cond.methodLinkNest q.1 q.2.1 q.2.2 RX8 ∈ lw_tbl := by decide +kernel
theorem st_4 : Cond.laysStatic RX8 "IS" "[I" ∈ lw_tbl := by decide +kernel
theorem st_5 : Cond.laysStatic RX8 "EFFORT" "[I" ∈ lw_tbl := by decide +kernel
theorem st_6 : Cond.initialized RX8 ∈ k_ws := by decide +kernel
theorem st_7 : Cond.initialized RX9 ∈ k_ws := by decide +kernel
theorem st_8 : Cond.classLink R_law 7 RX8 ∈ k_ws := by decide +kernel
theorem st_9 : Cond.classLink R_law 10 RX9 ∈ k_ws := by decide +kernel
theorem st_10 : Cond.code yX8_init cX8_init 2 none ∈ k_ws := by decide +kernel
theorem st_11 : Cond.code yX9_init cX9_init 2 none ∈ k_ws := by decide +kernel
theorem st_12 : Cond.methodLink R_law 9 yX8_init ∈ k_ws := by decide +kernel
theorem st_13 : Cond.methodLink R_law 12 yX9_init ∈ k_ws := by decide +kernel
theorem st_14 : Cond.instanceMethod yX8_init ∈ k_ws := by decide +kernel
theorem st_15 : Cond.instanceMethod yX9_init ∈ k_ws := by decide +kernel
/-- the tables of the tones -/
theorem st_tab {args : Array Value} {s : State} {nm : String} {f : Nat → Int32} (hl : (Cond.laysStatic RX8 nm "[I").before args s = true) (hi : (Cond.initialized RX8).before args s = true) (h1 : (Cond.arrayOf (.static RX8 nm "[I") .int).before args s = true) (h2 : (Cond.eq (.length (.static RX8 nm "[I")) (.int 6)).before args s = true) (h3 : ∀ j : Nat, j < 6 → (Cond.eq (.elem (.static RX8 nm "[I") (.int (Int32.ofNat j))) (.int (f j))).before args s = true) : ∃ t : Nat, va_Z RX8 nm "[I" (.ref t) (l_A s) s s.heap ∧ va_T .int t 6 (fun i => .int (f i)) (l_A s) s s.heap := by
  have hA : ∀ a : Nat, a < s.heap.size → ¬ l_A s a := fun a h => Nat.not_le.mpr h
  obtain ⟨t, ht, hT⟩ := va_Tof (N := 6) (f := fun i => .int (f i)) (A := l_A s) (by decide) h1 (va_eqt h2) (fun j hj => va_eqt (h3 j hj)) hA
  exact ⟨t, va_Zref hl hi ht hA, hT⟩
def st_g : Cond := Jvm.Cond.and given_1 narrow_1
theorem st_IS0 : Cond.arrayOf (.static RX8 "IS" "[I") .int ∈ flatC st_g ∧ Cond.eq (.length (.static RX8 "IS" "[I")) (.int 6) ∈ flatC st_g := by decide +kernel
theorem st_IS1 : ∀ j, j < 6 → Cond.eq (.elem (.static RX8 "IS" "[I") (.int (Int32.ofNat j))) (.int (k_tIS j)) ∈ flatC st_g := by decide +kernel
theorem st_EF0 : Cond.arrayOf (.static RX8 "EFFORT" "[I") .int ∈ flatC st_g ∧ Cond.eq (.length (.static RX8 "EFFORT" "[I")) (.int 6) ∈ flatC st_g := by decide +kernel
theorem st_EF1 : ∀ j, j < 6 → Cond.eq (.elem (.static RX8 "EFFORT" "[I") (.int (Int32.ofNat j))) (.int (k_tEF j)) ∈ flatC st_g := by decide +kernel
theorem st_k {s : State} {t0 t1 : Nat} {ad : Nat → Nat} (h0 : ad 1000 = t0) (h1 : ad 1001 = t1) (a : va_Z RX8 "IS" "[I" (.ref t0) (l_A s) s s.heap ∧ va_T .int t0 6 (fun i => .int (k_tIS i)) (l_A s) s s.heap) (b : va_Z RX8 "EFFORT" "[I" (.ref t1) (l_A s) s s.heap ∧ va_T .int t1 6 (fun i => .int (k_tEF i)) (l_A s) s s.heap) : k_st (l_A s) ad s s.heap := by
  intro q hq
  rcases List.mem_cons.mp hq with e | hq
  · subst e
    show va_Z RX8 "IS" "[I" (.ref (ad 1000)) _ _ _ ∧ va_T .int (ad 1000) 6 _ _ _ _
    rw [h0]; exact a
  · have e := List.mem_singleton.mp hq
    subst e
    show va_Z RX8 "EFFORT" "[I" (.ref (ad 1001)) _ _ _ ∧ va_T .int (ad 1001) 6 _ _ _ _
    rw [h1]; exact b
theorem st_good {z : MethodName} {d : ByteArray} {k : Nat} (hc : Cond.code z d k none ∈ k_ws) : GoodIn lw_tbl (k_wi z d k) := by
  intro w hw
  rcases List.mem_cons.mp hw with e | h2
  · subst e
    exact ⟨(List.mem_filter.mp hc).1, good_of_word (k_ws_good _ hc)⟩
  · exact ⟨(List.mem_filter.mp h2).1, good_of_word (k_ws_good _ h2)⟩
theorem st_blind {D : va_G} {cA : Nat → ClassId} {sz : Nat} {w : va_W} {av : List Value} : FrameBlind (va_Pc av (fun U => U.heap.size = sz ∧ va_P D vwCl w U.heap ∧ va_K D vwCl (k_ty cA) U ∧ va_D (fun _ => True) w ∧ k_nc U ∧ va_AO RX7 U ∧ va_AO RX4 U)) := by
  intro a U g mk q
  obtain ⟨q0, q1, qP, qK, qD, qN, q7, q4⟩ := q
  exact ⟨q0, q1, qP, va_K.moved (u := U) (U := U.calling g mk a) (Vm.Alike.refl U.vm) qK, qD, k_nc_same (u := U) (U := U.calling g mk a) rfl qN, va_AO.moved (u := U) (U := U.calling g mk a) (Vm.Alike.refl U.vm) q7, va_AO.moved (u := U) (U := U.calling g mk a) (Vm.Alike.refl U.vm) q4⟩
theorem st_split {A : Nat → Prop} {D : va_G} {S S1 : kH} {cA : Nat → ClassId} {ad ad1 : Nat → Nat} {σ μ : kS} {H : Heap} (hP : va_P D vwCl (k_wd S cA ad σ ++ k_wd S1 cA ad1 μ) H) (hD : va_D A (k_wd S cA ad σ ++ k_wd S1 cA ad1 μ)) : va_P D vwCl (k_wd S cA ad σ) H ∧ va_P D vwCl (k_wd S1 cA ad1 μ) H ∧ (∀ τ, va_D A (k_wd S cA ad τ)) ∧ (∀ τ, va_D A (k_wd S1 cA ad1 τ)) ∧ (∀ i, i < S.length → ∀ j, j < S1.length → ad i ≠ ad1 j) := by
  have hl : (k_wd S cA ad σ).length = S.length := by simp [k_wd]
  have gl : ∀ (k : Nat) (q : Nat × va_E), (k_wd S cA ad σ)[k]? = some q → (k_wd S cA ad σ ++ k_wd S1 cA ad1 μ)[k]? = some q := fun k q h => by
    rw [List.getElem?_append_left (List.getElem?_eq_some_iff.mp h).1]; exact h
  have gr : ∀ (k : Nat) (q : Nat × va_E), (k_wd S1 cA ad1 μ)[k]? = some q → (k_wd S cA ad σ ++ k_wd S1 cA ad1 μ)[S.length + k]? = some q := fun k q h => by
    rw [List.getElem?_append_right (by omega), hl, Nat.add_sub_cancel_left]; exact h
  have aL : va_D A (k_wd S cA ad σ) := ⟨fun i j p q hi hj => hD.1 i j p q (gl i p hi) (gl j q hj), fun k q hk => hD.2 k q (gl k q hk)⟩
  have aR : va_D A (k_wd S1 cA ad1 μ) := ⟨fun i j p q hi hj e => by have := hD.1 _ _ p q (gr i p hi) (gr j q hj) e; omega, fun k q hk => hD.2 _ q (gr k q hk)⟩
  refine ⟨fun k q h => hP k q (gl k q h), fun k q h => hP _ q (gr k q h), fun τ => k_DA aL (fun k hk => aL.2 k _ (k_wd_at (List.getElem?_eq_getElem hk))), fun τ => k_DA aR (fun k hk => aR.2 k _ (k_wd_at (List.getElem?_eq_getElem hk))), fun i hi j hj e => ?_⟩
  have h1 := gl i _ (k_wd_at (cA := cA) (ad := ad) (σ := σ) (List.getElem?_eq_getElem hi))
  have h2 := gr j _ (k_wd_at (cA := cA) (ad := ad1) (σ := μ) (List.getElem?_eq_getElem hj))
  have := hD.1 _ _ _ _ h1 h2 e
  omega
set_option maxRecDepth 100000 in
theorem M_world (cA : Nat → ClassId) (ad : Nat → Nat) (f : Nat → Int32) : k_wd SM cA ad (fun k => if k = 1 then f else fun _ => 0, fun _ _ => 0) = [(ad 0, .inr (9, [.ref (ad 1), .ref (ad 2), .ref (ad 3), .int 0, .ref (ad 4), .int 0, .ref (ad 5), .ref (ad 6), .ref (ad 7), .ref (ad 8), .ref (ad 9), .ref (ad 10), .int 0, .ref (ad 11), .ref (ad 12), .int 0, .int 0, .ref (ad 13), .ref (ad 14)])), (ad 1, .inl (cA 1, 4, .inl f)), (ad 2, .inl (cA 1, 4, .inl (fun _ => 0))), (ad 3, .inl (cA 2, 96, .inr (.inl (fun _ => 0)))), (ad 4, .inl (cA 1, 130, .inl (fun _ => 0))), (ad 5, .inl (cA 1, 38, .inl (fun _ => 0))), (ad 6, .inl (cA 1, 38, .inl (fun _ => 0))), (ad 7, .inl (cA 1, 38, .inl (fun _ => 0))), (ad 8, .inl (cA 1, 76, .inl (fun _ => 0))), (ad 9, .inl (cA 3, 2, .inl (fun _ => 0))), (ad 10, .inl (cA 1, 912, .inl (fun _ => 0))), (ad 11, .inl (cA 1, 5, .inl (fun _ => 0))), (ad 12, .inl (cA 1, 5, .inl (fun _ => 0))), (ad 13, .inl (cA 1, 65, .inl (fun _ => 0))), (ad 14, .inl (cA 3, 4096, .inl (fun _ => 0)))] := by
  rw [k_wd_eq]
  rfl
set_option maxRecDepth 100000 in
theorem M_final {cA : Nat → ClassId} {h0 : Nat} {w : va_W} (h : G_Model cA h0 w) (t0 t1 : Nat) : ∃ (ad : Nat → Nat) (μ : kS), ad 0 = h0 ∧ ad 1000 = t0 ∧ ad 1001 = t1 ∧ (∀ s, s < 4 → μ.1 1 s = -1) ∧ (∀ k, k ≠ 1 → ∀ i, μ.1 k i = 0) ∧ w = k_wd SM cA ad μ := by
  obtain ⟨q1, q2, q3, q4, q5, q6, q7, q8, q9, q10, q11, q12, q13, q14, f, hf, rfl⟩ := h
  refine ⟨fun k => if k = 1000 then t0 else if k = 1001 then t1 else ([h0, q1, q2, q3, q4, q5, q6, q7, q8, q9, q10, q11, q12, q13, q14] : List Nat).getD k 0, (fun k => if k = 1 then f else fun _ => 0, fun _ _ => 0), rfl, rfl, rfl, hf, fun k hk i => ?_, ?_⟩
  · show (if k = 1 then f else fun _ => 0) i = 0
    rw [if_neg hk]
  · rw [M_world]
    rfl
theorem X_zero : (∀ k, k < 55 → ∀ i, σX0.1 k i = 0) ∧ ∀ s, s < 4 → σX0.1 (55 + 2 * s) 0 = -1 := by
  refine ⟨fun k hk i => ?_, fun s hs => ?_⟩
  · show (if k < 55 then (0 : Int32) else if i = 0 then -1 else 0) = 0
    rw [if_pos hk]
  · show (if 55 + 2 * s < 55 then (0 : Int32) else if 0 = 0 then -1 else 0) = -1
    rw [if_neg (by omega), if_pos rfl]
/-- what the entry gives -/
theorem st_env {p : Program} {s : State} {m : MethodId} {meth : Method} {c : Code} {b L : Nat} {xs : Nat → Int32} (C0 : lw_At p s m meth c b L xs) : ∃ (D : va_G) (cA : Nat → ClassId) (t0 t1 : Nat), va_K D vwCl (k_ty cA) s ∧ k_nw s ∧ (k_nc s ∧ va_AO RX7 s ∧ va_AO RX4 s) ∧ (va_Z RX8 "IS" "[I" (.ref t0) (l_A s) s s.heap ∧ va_T .int t0 6 (fun i => .int (k_tIS i)) (l_A s) s s.heap) ∧ (va_Z RX8 "EFFORT" "[I" (.ref t1) (l_A s) s s.heap ∧ va_T .int t1 6 (fun i => .int (k_tEF i)) (l_A s) s s.heap) := by
  obtain ⟨hx, hb, hr, hml, hown, hts, hX, hbl, hlocks, hgv⟩ := C0
  have wd : ∀ w ∈ k_ws, w.before #[Value.ref b] s = true := fun w h => hts w (List.mem_filter.mp h).1
  obtain ⟨c0, i0, n0⟩ := u_known (C := RX0) (T := TX0) (N := 5) (n := 5) wd inX0 (wd _ si_0)
  obtain ⟨c1, i1, n1⟩ := u_known (C := RX1) (T := TX1) (N := 2) (n := 2) wd inX1 (wd _ si_1)
  obtain ⟨c2, i2, n2⟩ := u_known (C := RX2) (T := TX2) (N := 2) (n := 2) wd inX2 (wd _ si_2)
  obtain ⟨c3, i3, n3⟩ := u_known (C := RX3) (T := TX3) (N := 5) (n := 5) wd inX3 (wd _ si_3)
  obtain ⟨c4, i4, n4⟩ := u_known (C := RX4) (T := TX4) (N := 3) (n := 3) wd inX4 (wd _ si_4)
  obtain ⟨c5, i5, n5⟩ := u_known (C := RX5) (T := TX5) (N := 6) (n := 6) wd inX5 (wd _ si_5)
  obtain ⟨c6, i6, n6⟩ := u_known (C := RX6) (T := TX6) (N := 3) (n := 3) wd inX6 (wd _ si_6)
  obtain ⟨c7, i7, n7⟩ := u_known (C := RX7) (T := TX7) (N := 11) (n := 11) wd inX7 (wd _ si_7)
  obtain ⟨c8, i8, n8⟩ := u_known (C := RX8) (T := TX8) (N := 10) (n := 10) wd inX8 (wd _ si_8)
  obtain ⟨c9, i9, n9⟩ := u_known (C := RX9) (T := TX9) (N := 19) (n := 19) wd inX9 (wd _ si_9)
  obtain ⟨D, hKc⟩ : ∃ D : va_G, ∀ (k : Nat) (q : vw_C), vwCl[k]? = some q → u_Kn s q.1 q.2.1 q.2.2 (D.1 k) (D.2 k) := by
    refine ⟨(fun k => if k = 0 then c0 else if k = 1 then c1 else if k = 2 then c2 else if k = 3 then c3 else if k = 4 then c4 else if k = 5 then c5 else if k = 6 then c6 else if k = 7 then c7 else if k = 8 then c8 else c9, fun k => if k = 0 then i0 else if k = 1 then i1 else if k = 2 then i2 else if k = 3 then i3 else if k = 4 then i4 else if k = 5 then i5 else if k = 6 then i6 else if k = 7 then i7 else if k = 8 then i8 else i9), ?_⟩
    intro k q hq
    match k, hq with
    | 0, hq => cases hq; exact n0
    | 1, hq => cases hq; exact n1
    | 2, hq => cases hq; exact n2
    | 3, hq => cases hq; exact n3
    | 4, hq => cases hq; exact n4
    | 5, hq => cases hq; exact n5
    | 6, hq => cases hq; exact n6
    | 7, hq => cases hq; exact n7
    | 8, hq => cases hq; exact n8
    | 9, hq => cases hq; exact n9
    | k + 10, hq => simp [vwCl] at hq
  obtain ⟨cA, hcA⟩ := ar_all hts
  have hg := flat_of_before st_g hgv
  obtain ⟨t0, hT0⟩ := st_tab (f := k_tIS) (hts _ st_4) (wd _ st_6) (hg _ st_IS0.1) (hg _ st_IS0.2) (fun j hj => hg _ (st_IS1 j hj))
  obtain ⟨t1, hT1⟩ := st_tab (f := k_tEF) (hts _ st_5) (wd _ st_6) (hg _ st_EF0.1) (hg _ st_EF0.2) (fun j hj => hg _ (st_EF1 j hj))
  exact ⟨D, cA, t0, t1, ⟨hKc, hcA⟩, ⟨fun q hq => va_Nw.of rfl (hts _ (st_1 q hq)), fun q hq => va_Nw.of rfl (hts _ (st_2 q hq))⟩, ⟨fun q hq => va_Nw.of rfl (hts _ (st_3 q hq)), va_AO.of (hts _ ar_w4), va_AO.of (hts _ ar_w5)⟩, hT0, hT1⟩
theorem st_f8 : ∀ j, j < 10 → defaultValue (tyX8 j) = vp_V [.null, .null, .null, .null, .null, .null, .null, .null, .null, .null] j := (fun j hj => by rcases (show j = 0 ∨ j = 1 ∨ j = 2 ∨ j = 3 ∨ j = 4 ∨ j = 5 ∨ j = 6 ∨ j = 7 ∨ j = 8 ∨ j = 9 by omega) with rfl | rfl | rfl | rfl | rfl | rfl | rfl | rfl | rfl | rfl <;> rfl)
theorem st_f9 : ∀ j, j < 19 → defaultValue (tyX9 j) = vp_V [.null, .null, .null, .int 0, .null, .int 0, .null, .null, .null, .null, .null, .null, .int 0, .null, .null, .int 0, .int 0, .null, .null] j := (fun j hj => by rcases (show j = 0 ∨ j = 1 ∨ j = 2 ∨ j = 3 ∨ j = 4 ∨ j = 5 ∨ j = 6 ∨ j = 7 ∨ j = 8 ∨ j = 9 ∨ j = 10 ∨ j = 11 ∨ j = 12 ∨ j = 13 ∨ j = 14 ∨ j = 15 ∨ j = 16 ∨ j = 17 ∨ j = 18 by omega) with rfl | rfl | rfl | rfl | rfl | rfl | rfl | rfl | rfl | rfl | rfl | rfl | rfl | rfl | rfl | rfl | rfl | rfl | rfl <;> rfl)
section
variable {p : Program} {l : Launch} {e : Env} {s : State} {m : MethodId} {below : List Frame} {meth : Method} {c : Code} {b L : Nat} {xs : Nat → Int32} {D : va_G} {cA : Nat → ClassId} {Q : State → Prop} {H : Heap} {locs : List Loc} {ls : Array Slot}
theorem st_newX (C0 : lw_At p s m meth c b L xs) (hK : va_K D vwCl (k_ty cA) s) (hnc : k_nc s ∧ va_AO RX7 s ∧ va_AO RX4 s) (hls : ls.size = 4) (kk : ∀ (q : Nat) (w : va_W) (H1 : Heap) (locs1 : List Loc), G_X cA q w → va_P D vwCl w H1 → va_D (l_A s) w → va_S (l_A s) s.heap H1 locs1 → W p l e room_1 s m #[Value.ref b] below meth c H1 locs1 63 4931 Q (F0 m 7 ls [.ref q])) : W p l e room_1 s m #[Value.ref b] below meth c s.heap [] 0 0 Q (F0 m 0 ls []) := by
  obtain ⟨hx, hb, hr, hml, hown, hts, -⟩ := C0
  have wd : ∀ w ∈ k_ws, w.before #[Value.ref b] s = true := fun w h => hts w (List.mem_filter.mp h).1
  have hA : ∀ q : Nat, s.heap.size ≤ q → l_A s q := fun _ h => h
  have hS : va_S (l_A s) s.heap s.heap [] := va_S.rf
  have hP : va_P D vwCl [] s.heap := fun k q h => by simp at h
  have hD : va_D (l_A s) [] := ⟨fun i j p q h => by simp at h, fun k q h => by simp at h⟩
  refine va_new (ci := 8) (fs := [.null, .null, .null, .null, .null, .null, .null, .null, .null, .null]) (C := RX8) (T := TX8) (N := 10) hx hb hts (fun w h => (List.mem_filter.mp (inX8 w h)).1) tyX8 tyX8_ok hown (wd _ st_8) (wd _ si_8) (wd _ st_6) hK hP hD hS hA rfl st_f8 (show 0 + 1 ≤ 600000 by decide) (show 0 + 10 ≤ 7302250 by decide) (show decode code 0 = .ok (.new 7, 3) by decide +kernel) (fun q H hP hD hS => ?_)
  refine lv_dup hx hb (show decode code 3 = .ok (.dup, 1) by decide +kernel) rfl ?_
  have hPc : va_P D vwCl [(q, .inr (8, [.null, .null, .null, .null, .null, .null, .null, .null, .null, .null]))] H := hP
  have hDc : va_D (l_A s) [(q, .inr (8, [.null, .null, .null, .null, .null, .null, .null, .null, .null, .null]))] := hD
  have hFc := va_free (wc := [(q, .inr (8, [.null, .null, .null, .null, .null, .null, .null, .null, .null, .null]))]) hD hS hA [0] rfl
  have hcb : CallB room_1 s #[Value.ref b] R_law 9 yX8_init cX8_init 2 none (k_wi yX8_init cX8_init 2) ({ frames := 3, cells := 62, slots := 4921, locals := 90 }) 62 4921 0 := callB_of 0 hts (st_good st_10) rfl rfl rfl (wd _ st_6) (wd _ st_12) (by decide +kernel) ⟨by decide, by decide⟩
  refine mk_back (A1 := va_A [(q, .inr (8, [.null, .null, .null, .null, .null, .null, .null, .null, .null, .null]))] H.size) (pc := 4) (rest := [.ref q]) (a := #[]) (va_runI (As := []) (rest := [.ref q]) (nL := 4) (Ts := lw_tbl) ⟨hx, hb, hml, hown, hts⟩ (c_X l D cA q H.size) ⟨hcb, rfl, wd _ st_14⟩ ⟨st_blind, fun U hU hW => ⟨rfl, by rw [hU], by rw [hU]; exact hPc, va_K.moved hW.alike hK, hDc.weaken (fun _ _ _ _ => trivial), k_nc_warm hW hnc.1, va_AO.moved hW.alike hnc.2.1, va_AO.moved hW.alike hnc.2.2⟩⟩ rfl rfl hls rfl (lv_room (Nat.le_of_ble_eq_true rfl)) (show decode code 4 = .ok (.invokespecial 9, 3) by decide +kernel) ⟨show 0 + 1 + 62 ≤ 600000 by decide, show 0 + 10 + 4921 ≤ 7302250 by decide⟩) hS hFc (fun t H1 locs1 ht hp hk hS => ?_)
  obtain ⟨w, hG, hP1, hD1⟩ := hp
  rw [ht] at hP1
  obtain ⟨hP, hD⟩ := mk_join (ws := []) hP hD hk hFc hP1 hD1
  exact kk q w H1 locs1 hG hP hD hS
theorem st_newM {ws : va_W} (C0 : lw_At p s m meth c b L xs) (hK : va_K D vwCl (k_ty cA) s) (hnc : k_nc s) (hls : ls.size = 4) (hP : va_P D vwCl ws H) (hD : va_D (l_A s) ws) (hS : va_S (l_A s) s.heap H locs) (kk : ∀ (r : Nat) (w : va_W) (H1 : Heap) (locs1 : List Loc), G_Model cA r w → va_P D vwCl (ws ++ w) H1 → va_D (l_A s) (ws ++ w) → va_S (l_A s) s.heap H1 locs1 → W p l e room_1 s m #[Value.ref b] below meth c H1 locs1 78 10459 Q (F0 m 15 ls [.ref r])) : W p l e room_1 s m #[Value.ref b] below meth c H locs 63 4931 Q (F0 m 8 ls []) := by
  obtain ⟨hx, hb, hr, hml, hown, hts, -⟩ := C0
  have wd : ∀ w ∈ k_ws, w.before #[Value.ref b] s = true := fun w h => hts w (List.mem_filter.mp h).1
  have hA : ∀ q : Nat, s.heap.size ≤ q → l_A s q := fun _ h => h
  refine va_new (ci := 9) (fs := [.null, .null, .null, .int 0, .null, .int 0, .null, .null, .null, .null, .null, .null, .int 0, .null, .null, .int 0, .int 0, .null, .null]) (C := RX9) (T := TX9) (N := 19) hx hb hts (fun w h => (List.mem_filter.mp (inX9 w h)).1) tyX9 tyX9_ok hown (wd _ st_9) (wd _ si_9) (wd _ st_7) hK hP hD hS hA rfl st_f9 (show 63 + 1 ≤ 600000 by decide) (show 4931 + 19 ≤ 7302250 by decide) (show decode code 8 = .ok (.new 10, 3) by decide +kernel) (fun r H hP hD hS => ?_)
  refine lv_dup hx hb (show decode code 11 = .ok (.dup, 1) by decide +kernel) rfl ?_
  have hPc : va_P D vwCl [(r, .inr (9, [.null, .null, .null, .int 0, .null, .int 0, .null, .null, .null, .null, .null, .null, .int 0, .null, .null, .int 0, .int 0, .null, .null]))] H := hP.sub [ws.length] (by simp)
  have hDc : va_D (l_A s) [(r, .inr (9, [.null, .null, .null, .int 0, .null, .int 0, .null, .null, .null, .null, .null, .null, .int 0, .null, .null, .int 0, .int 0, .null, .null]))] := hD.sub [ws.length] rfl (by simp)
  have hFc := va_free (wc := [(r, .inr (9, [.null, .null, .null, .int 0, .null, .int 0, .null, .null, .null, .null, .null, .null, .int 0, .null, .null, .int 0, .int 0, .null, .null]))]) hD hS hA [ws.length] (by simp)
  have hcb : CallB room_1 s #[Value.ref b] R_law 12 yX9_init cX9_init 2 none (k_wi yX9_init cX9_init 2) ({ frames := 1, cells := 14, slots := 5509, locals := 30 }) 14 5509 0 := callB_of 0 hts (st_good st_11) rfl rfl rfl (wd _ st_7) (wd _ st_13) (by decide +kernel) ⟨by decide, by decide⟩
  refine mk_back (A1 := va_A [(r, .inr (9, [.null, .null, .null, .int 0, .null, .int 0, .null, .null, .null, .null, .null, .null, .int 0, .null, .null, .int 0, .int 0, .null, .null]))] H.size) (pc := 12) (rest := [.ref r]) (a := #[]) (va_runI (As := []) (rest := [.ref r]) (nL := 4) (Ts := lw_tbl) ⟨hx, hb, hml, hown, hts⟩ (c_Model l D cA r H.size) ⟨hcb, rfl, wd _ st_15⟩ ⟨mk_blindN, fun U hU hW => ⟨rfl, by rw [hU], by rw [hU]; exact hPc, va_K.moved hW.alike hK, hDc.weaken (fun _ _ _ _ => trivial), k_nc_warm hW hnc⟩⟩ rfl rfl hls rfl (lv_room (Nat.le_of_ble_eq_true rfl)) (show decode code 12 = .ok (.invokespecial 12, 3) by decide +kernel) ⟨show 63 + 1 + 14 ≤ 600000 by decide, show 4931 + 19 + 5509 ≤ 7302250 by decide⟩) hS hFc (fun t H1 locs1 ht hp hk hS => ?_)
  obtain ⟨w, hG, hP1, hD1⟩ := hp
  rw [ht] at hP1
  obtain ⟨hP, hD⟩ := mk_join hP hD hk hFc hP1 hD1
  exact kk r w H1 locs1 hG hP hD hS
end
theorem st_last {p : Program} {l : Launch} {e : Env} {s : State} {m : MethodId} {below : List Frame} {meth : Method} {c : Code} {b L q r : Nat} {xs : Nat → Int32} {D : va_G} {cA : Nat → ClassId} {H : Heap} {locs : List Loc} {ls : Array Slot} {aX aM : Nat → Nat} {μ : kS} (hL : L ≤ 3072) (C0 : lw_At p s m meth c b L xs) (E : l_ev s D cA aX aM) (hPX : va_P D vwCl (k_wd SX cA aX σX0) H) (hPM : va_P D vwCl (k_wd SM cA aM μ) H) (hS : va_S (l_A s) s.heap H locs) (hI : Inv σX0 μ) (x0 : aX 0 = q) (y0 : aM 0 = r) (hl : lv_has ls 4 [(1, .ref q), (0, .ref b)]) : W p l e room_1 s m #[Value.ref b] below meth c H locs 78 10459 (lw_Z below #[Value.ref b] s) (F0 m 15 ls [.ref r]) := by
  refine lv_astore_n (lv' := [(2, .ref r), (1, .ref q), (0, .ref b)]) C0.1 C0.2.1 (show decode code 15 = .ok (.astore_n 2, 1) by decide +kernel) rfl hl (by decide) rfl (fun ls hl => ?_)
  refine lv_iconst (v := nI 0) C0.1 C0.2.1 (show decode code 16 = .ok (.iconst 0, 1) by decide +kernel) rfl ?_
  refine lv_istore_n (lv' := [(3, .int (nI 0)), (2, .ref r), (1, .ref q), (0, .ref b)]) C0.1 C0.2.1 (show decode code 17 = .ok (.istore_n 3, 1) by decide +kernel) rfl hl (by decide) rfl (fun ls hl => ?_)
  have hl : lv_has ls 4 [(0, .ref b), (1, .ref q), (2, .ref r), (3, .int (nI 0))] := lv_sub hl [3, 2, 1, 0] rfl
  subst x0
  subst y0
  have K := law_loop (xs := xs) hL (L + 1) 0 σX0 μ (Nat.zero_le L) (by omega) hI
  exact K p l e s m below meth c b D cA aX aM H locs ls C0 E hPX hPM hS hl
/-- YOUR PART: from the entry, for every script of at most 3072 ints, the law comes to its end with true -/
theorem whole_start {p : Program} {e : Env} {s : State} {m : MethodId} {below : List Frame} {meth : Method} {c : Code} (l : Launch) {b L : Nat} {xs : Nat → Int32} (hL : L ≤ 3072) (C0 : lw_At p s m meth c b L xs) : W p l e room_1 s m #[Value.ref b] below meth c s.heap [] 0 0 (lw_Z below #[Value.ref b] s) (entryFrame m ([Value.ref b] : List Value).toArray 4) := by
  obtain ⟨D, cA, t0, t1, hK, hN, hnc, hT0, hT1⟩ := st_env C0
  have hl := lv_entry ([.ref b]) (n := 4) (Nat.le_of_ble_eq_true rfl)
  rw [lg_entry_eq]
  generalize (lg_sl ([.ref b]) ++ List.replicate (4 - (lg_sl ([.ref b])).length) Slot.unset).toArray = ls at hl ⊢
  have hl : lv_has ls 4 [(0, .ref b)] := hl
  refine st_newX C0 hK hnc hl.1 (fun q w H locs hG hP hD hS => ?_)
  refine lv_astore_n (lv' := [(1, .ref q), (0, .ref b)]) C0.1 C0.2.1 (show decode code 7 = .ok (.astore_n 1, 1) by decide +kernel) rfl hl (by decide) rfl (fun ls hl => ?_)
  refine st_newM C0 hK hnc.1 hl.1 hP hD hS (fun r w1 H locs hG1 hP hD hS => ?_)
  obtain ⟨aX, x0, x1, x2, hw⟩ := hG t0 t1
  obtain ⟨aM, μ, y0, y1, y2, y3, y4, hw1⟩ := M_final hG1 t0 t1
  rw [hw, hw1] at hP hD
  obtain ⟨hPX, hPM, gX, gM, hap⟩ := st_split hP hD
  exact st_last hL C0 ⟨hK, hN, st_k x1 x2 hT0 hT1, st_k y1 y2 hT0 hT1, gX, gM, hap⟩ hPX hPM hS (Inv_0 X_zero.1 X_zero.2 y3 y4) x0 y0 hl
