/-! MissingNote's own constructor: its steps -/
/-- what MissingNote's constructor has of a nest mate's class -/
def mk_cls (ci i1 i2 N mc ms : Nat) (fs : List Value) (C : String) (G : (Nat → ClassId) → Nat → va_W → Prop) : Prop := ∃ (T : u_T) (y : MethodName) (b : ByteArray) (ty : Nat → FieldType) (fr lo : Nat),
  (mk_C y b 1 ci fs [] fr mc ms lo G ∧ fr ≤ 2 ∧ lo ≤ 60) ∧ vwCl[ci]? = some (C, T, N) ∧ (∀ w ∈ u_ws C T N, w ∈ k_ws) ∧ (∀ k, k < N → parseFieldDescriptor (T k).2.2.1 = some (ty k)) ∧ (Cond.classLink RX8 i1 C ∈ k_ws ∧ Cond.instantiable C N ∈ k_ws ∧ Cond.initialized C ∈ k_ws) ∧ (∀ j, j < N → defaultValue (ty j) = vp_V fs j) ∧ Cond.code y b 1 none ∈ k_ws ∧ (RX8, i2, y) ∈ k_nwC ∧ (y.cls = C ∧ y.name = "<init>") ∧ Cond.instanceMethod y ∈ k_ws ∧ (C ≠ "java/lang/invoke/MethodHandle" ∧ C ≠ "java/lang/invoke/VarHandle" ∧ (parseMethodDescriptor y.desc).map (fun d => d.parameters.length) = some 0)
/-- the frame of MissingNote's constructor -/
def cx_E (p : Program) (s : State) (m : MethodId) (args : Array Value) (meth : Method) (c : Code) (D : va_G) (cA : Nat → ClassId) (A : Nat → Prop) : Prop := p.tables.exec = Jvm.exec ∧ c.code = cX8_init ∧ c.maxLocals = 2 ∧ s.vm.findClass RX8 = some m.cls ∧ meth.name = "<init>" ∧ (∀ w ∈ k_wi yX8_init cX8_init 2, w.before args s = true) ∧ k_nc s ∧ (va_AO RX7 s ∧ va_AO RX4 s) ∧ va_K D vwCl (k_ty cA) s ∧ (∀ q, s.heap.size ≤ q → A q)
/-- a field of MissingNote, final, of this type -/
def cx_f (idx k : Nat) (ty : FieldType) : Prop := k < 10 ∧ Cond.fieldLink RX8 idx RX8 (TX8 k).2.1 (TX8 k).2.2.1 ∈ k_ws ∧ (TX8 k).1 = RX8 ∧ (TX8 k).2.2.2 = true ∧ parseFieldDescriptor (TX8 k).2.2.1 = some ty
section
variable {p : Program} {l : Launch} {e : Env} {R : Room} {s : State} {m : MethodId} {args : Array Value} {below : List Frame} {meth : Method} {c : Code} {H : Heap} {locs : List Loc} {cells slots : Nat} {Q : State → Prop} {pc : Nat} {ls : Array Slot} {rest : List Value} {D : va_G} {cA : Nat → ClassId} {A : Nat → Prop}
theorem cx_new {ws : va_W} {ci i1 i2 N mc ms : Nat} {fs : List Value} {C : String} {G : (Nat → ClassId) → Nat → va_W → Prop} (hB : mk_cls ci i1 i2 N mc ms fs C G) (E : cx_E p s m args meth c D cA A) (hls : ls.size = 2) (hR : 3 ≤ R.frames ∧ 80 ≤ R.locals) (hc : cells + 1 + mc ≤ R.cells) (hs : slots + N + ms ≤ R.slots) (hcat : (rest.map fun v => v.category).sum ≤ 7)
    (hP : va_P D vwCl ws H) (hD : va_D A ws) (hS : va_S A s.heap H locs)
    (d1 : decode cX8_init pc = .ok (.new i1, 3)) (d2 : decode cX8_init (pc + 3) = .ok (.dup, 1)) (d3 : decode cX8_init (pc + 4) = .ok (.invokespecial i2, 3))
    (kk : ∀ (q : Nat) (w : va_W) (H1 : Heap) (locs1 : List Loc), G cA q w → va_P D vwCl (ws ++ w) H1 → va_D A (ws ++ w) → va_S A s.heap H1 locs1 → W p l e R s m args below meth c H1 locs1 (cells + 1 + mc) (slots + N + ms) Q (F0 m (pc + 7) ls (.ref q :: rest))) :
    W p l e R s m args below meth c H locs cells slots Q (F0 m pc ls rest) := by
  obtain ⟨T, y, b, ty, fr, lo, ⟨h1, hfr, hlo⟩, h2, h3, h4, ⟨h5, h6, h7⟩, h8, h9, h10, ⟨h11, h12⟩, h13, h14⟩ := hB
  obtain ⟨e1, e2, e3, e4, e5, e6, e7, e8, e9, e10⟩ := E
  exact mk_nest ty e1 e2 e3 e4 e6 e7 hls h1 h2 h3 h4 h5 h6 h7 h8 h9 h10 h11 h12 h13 h14 ⟨by omega, by omega⟩ hc hs hcat e9 hP hD hS e10 d1 d2 d3 kk
/-- putfield of a reference into the object itself -/
theorem cx_put {wr : va_W} {fs : List Value} {h0 q idx k : Nat} {ty : FieldType} (E : cx_E p s m args meth c D cA A) (hf : cx_f idx k ty) (hn : narrow ty (.ref q) = .ref q) (hfit : fits ty (.ref q) = true) (hlen : k < fs.length)
    (hP : va_P D vwCl ((h0, .inr (8, fs)) :: wr) H) (hD : va_D A ((h0, .inr (8, fs)) :: wr)) (hS : va_S A s.heap H locs) (d : decode cX8_init pc = .ok (.putfield idx, 3))
    (kk : ∀ (H1 : Heap) (locs1 : List Loc), va_P D vwCl ((h0, .inr (8, fs.set k (.ref q))) :: wr) H1 → va_D A ((h0, .inr (8, fs.set k (.ref q))) :: wr) → va_S A s.heap H1 locs1 → W p l e R s m args below meth c H1 locs1 cells slots Q (F0 m (pc + 3) ls rest)) :
    W p l e R s m args below meth c H locs cells slots Q (F0 m pc ls (.ref q :: .ref h0 :: rest)) := by
  obtain ⟨e1, e2, e3, e4, e5, e6, e7, e8, e9, e10⟩ := E
  obtain ⟨f1, f2, f3, f4, f5⟩ := hf
  refine va_putF (ci := 8) (v := .ref q) (ty := ty) (C := RX8) (T := TX8) (N := 10) e1 e2 e6 (fun w h => List.mem_cons_of_mem _ (inX8 w h)) tyX8 tyX8_ok nmX8 e4 e9 hP hD hS 0 rfl rfl k f1 (e6 _ (List.mem_cons_of_mem _ f2)) (fun x h9 => by rw [f3] at h9; exact h9) f4 e5 f3 f5 hn hfit hlen d (fun H1 locs1 hP hD hS => ?_)
  exact kk H1 locs1 hP hD hS
/-- getfield of the object itself -/
theorem cx_get {ws : va_W} {fs : List Value} {h0 idx k : Nat} {ty : FieldType} {v : Value} (E : cx_E p s m args meth c D cA A) (hf : cx_f idx k ty) (he : ws[0]? = some (h0, .inr (8, fs))) (hv : fs[k]? = some v) (hP : va_P D vwCl ws H) (d : decode cX8_init pc = .ok (.getfield idx, 3))
    (kk : W p l e R s m args below meth c H locs cells slots Q (F0 m (pc + 3) ls (v :: rest))) : W p l e R s m args below meth c H locs cells slots Q (F0 m pc ls (.ref h0 :: rest)) := by
  obtain ⟨e1, e2, e3, e4, e5, e6, e7, e8, e9, e10⟩ := E
  obtain ⟨f1, f2, f3, f4, f5⟩ := hf
  exact va_get (D := D) (ci := 8) (v := v) (C := RX8) (T := TX8) (N := 10) e1 e2 e6 (fun w h => List.mem_cons_of_mem _ (inX8 w h)) e4 e9 hP 0 he rfl k f1 (e6 _ (List.mem_cons_of_mem _ f2)) (fun x h9 => by rw [f3] at h9; exact h9) hv d kk
/-- a field that holds a new object -/
theorem cx_fld {wr : va_W} {ci i1 i2 N mc ms idx k h0 : Nat} {fs fs1 : List Value} {C : String} {G : (Nat → ClassId) → Nat → va_W → Prop} (hB : mk_cls ci i1 i2 N mc ms fs1 C G) (E : cx_E p s m args meth c D cA A) (hf : cx_f idx k (.object C)) (hls : ls.size = 2) (hl : ls[0]? = some (.val (.ref h0))) (hR : 3 ≤ R.frames ∧ 80 ≤ R.locals) (hc : cells + 1 + mc ≤ R.cells) (hs : slots + N + ms ≤ R.slots) (hlen : k < fs.length)
    (hP : va_P D vwCl ((h0, .inr (8, fs)) :: wr) H) (hD : va_D A ((h0, .inr (8, fs)) :: wr)) (hS : va_S A s.heap H locs)
    (d0 : decode cX8_init pc = .ok (.aload_n 0, 1)) (d1 : decode cX8_init (pc + 1) = .ok (.new i1, 3)) (d2 : decode cX8_init (pc + 1 + 3) = .ok (.dup, 1)) (d3 : decode cX8_init (pc + 1 + 4) = .ok (.invokespecial i2, 3)) (d4 : decode cX8_init (pc + 1 + 7) = .ok (.putfield idx, 3))
    (kk : ∀ (q : Nat) (w : va_W) (H1 : Heap) (locs1 : List Loc), G cA q w → va_P D vwCl ((h0, .inr (8, fs.set k (.ref q))) :: (wr ++ w)) H1 → va_D A ((h0, .inr (8, fs.set k (.ref q))) :: (wr ++ w)) → va_S A s.heap H1 locs1 → W p l e R s m args below meth c H1 locs1 (cells + 1 + mc) (slots + N + ms) Q (F0 m (pc + 1 + 7 + 3) ls [])) :
    W p l e R s m args below meth c H locs cells slots Q (F0 m pc ls []) := by
  refine lv_aload_n E.1 E.2.1 d0 rfl hl ?_
  refine cx_new hB E hls hR hc hs (Nat.le_of_ble_eq_true rfl) hP hD hS d1 d2 d3 (fun q w H locs hG hP hD hS => ?_)
  exact cx_put (h0 := h0) (q := q) (wr := wr ++ w) E hf rfl rfl hlen hP hD hS d4 (fun H1 locs1 hP hD hS => kk q w H1 locs1 hG hP hD hS)
/-- a field that holds a new row of references -/
theorem cx_row {wr : va_W} {i1 idx k h0 cn tn N' : Nat} {n : Int32} {fs : List Value} {C : String} (E : cx_E p s m args meth c D cA A) (hf : cx_f idx k (.array (.object C))) (hao : va_AO C s) (hlk : Cond.classLink RX8 i1 C ∈ k_ws) (htn : (k_ty cA)[tn]? = some (cA cn, .object C)) (hl : ls[0]? = some (.val (.ref h0))) (hn : ¬ n < 0) (hN : n.toNatClampNeg = N') (hby : N' * 4 ≤ 536870912) (hc : cells + 1 ≤ R.cells) (hs : slots + N' ≤ R.slots) (hlen : k < fs.length)
    (hP : va_P D vwCl ((h0, .inr (8, fs)) :: wr) H) (hD : va_D A ((h0, .inr (8, fs)) :: wr)) (hS : va_S A s.heap H locs)
    (d0 : decode cX8_init pc = .ok (.aload_n 0, 1)) {z : Int} (d1 : decode cX8_init (pc + 1) = .ok (.iconst z, 1)) (hz : Int32.ofInt z = n) (d2 : decode cX8_init (pc + 1 + 1) = .ok (.anewarray i1, 3)) (d4 : decode cX8_init (pc + 1 + 1 + 3) = .ok (.putfield idx, 3))
    (kk : ∀ (q : Nat) (H1 : Heap) (locs1 : List Loc), va_P D vwCl ((h0, .inr (8, fs.set k (.ref q))) :: (wr ++ [(q, .inl (cA cn, N', .inr (.inr (.inr (.inr (fun _ => none))))))])) H1 → va_D A ((h0, .inr (8, fs.set k (.ref q))) :: (wr ++ [(q, .inl (cA cn, N', .inr (.inr (.inr (.inr (fun _ => none))))))])) → va_S A s.heap H1 locs1 → W p l e R s m args below meth c H1 locs1 (cells + 1) (slots + N') Q (F0 m (pc + 1 + 1 + 3 + 3) ls [])) :
    W p l e R s m args below meth c H locs cells slots Q (F0 m pc ls []) := by
  refine lv_aload_n E.1 E.2.1 d0 rfl hl ?_
  refine lv_iconst E.1 E.2.1 d1 hz ?_
  refine va_newq E.1 E.2.1 E.2.2.2.1 (E.2.2.2.2.2.1 _ (List.mem_cons_of_mem _ hlk)) hao E.2.2.2.2.2.2.2.2.1 hP hD hS E.2.2.2.2.2.2.2.2.2 hn hN hby hc hs d2 (fun q c1 H hK1 hP hD hS => ?_)
  have hc1 : c1 = cA cn := RA_1 (hK1.2 5 (c1, .object C) rfl).2 (E.2.2.2.2.2.2.2.2.1.2 tn _ htn).2
  subst hc1
  have hP : va_P D vwCl ((h0, .inr (8, fs)) :: (wr ++ [(q, .inl (cA cn, N', .inr (.inr (.inr (.inr (fun _ => none))))))])) H := hP
  have hD : va_D A ((h0, .inr (8, fs)) :: (wr ++ [(q, .inl (cA cn, N', .inr (.inr (.inr (.inr (fun _ => none))))))])) := hD
  exact cx_put E hf rfl rfl hlen hP hD hS d4 (fun H1 locs1 hP hD hS => kk q H1 locs1 hP hD hS)
/-- chords = choir.chords -/
theorem cx_chords {wr : va_W} {h0 g0 d0 k0 : Nat} {fs fs1 : List Value} (E : cx_E p s m args meth c D cA A) (h40 : cx_f 40 5 (.object RX1)) (h48 : cx_f 48 6 (.object RX2)) (w1 : Cond.fieldLink RX8 44 RX1 (TX1 1).2.1 (TX1 1).2.2.1 ∈ k_ws) (hl : ls[0]? = some (.val (.ref h0))) (hlen : 6 < fs.length) (hg : fs[5]? = some (.ref g0)) (he : ((h0, Sum.inr (8, fs)) :: wr : va_W)[k0]? = some (g0, .inr (1, fs1))) (hd : fs1[1]? = some (.ref d0))
    (hP : va_P D vwCl ((h0, .inr (8, fs)) :: wr) H) (hD : va_D A ((h0, .inr (8, fs)) :: wr)) (hS : va_S A s.heap H locs)
    (kk : ∀ (H1 : Heap) (locs1 : List Loc), va_P D vwCl ((h0, .inr (8, fs.set 6 (.ref d0))) :: wr) H1 → va_D A ((h0, .inr (8, fs.set 6 (.ref d0))) :: wr) → va_S A s.heap H1 locs1 → W p l e R s m args below meth c H1 locs1 cells slots Q (F0 m 78 ls [])) :
    W p l e R s m args below meth c H locs cells slots Q (F0 m 67 ls []) := by
  refine lv_aload_n E.1 E.2.1 (show decode cX8_init 67 = .ok (.aload_n 0, 1) by decide +kernel) rfl hl ?_
  refine lv_aload_n E.1 E.2.1 (show decode cX8_init 68 = .ok (.aload_n 0, 1) by decide +kernel) rfl hl ?_
  refine cx_get (pc := 69) (fs := fs) (v := .ref g0) E h40 rfl hg hP (show decode cX8_init 69 = .ok (.getfield 40, 3) by decide +kernel) ?_
  refine va_get (D := D) (ci := 1) (v := .ref d0) (C := RX1) (T := TX1) (N := 2) E.1 E.2.1 E.2.2.2.2.2.1 (fun w h => List.mem_cons_of_mem _ (inX1 w h)) E.2.2.2.1 E.2.2.2.2.2.2.2.2.1 hP k0 he rfl 1 (by decide) (E.2.2.2.2.2.1 _ (List.mem_cons_of_mem _ w1)) (fun x h9 => h9) hd (show decode cX8_init 72 = .ok (.getfield 44, 3) by decide +kernel) ?_
  exact cx_put (pc := 75) E h48 rfl rfl hlen hP hD hS (show decode cX8_init 75 = .ok (.putfield 48, 3) by decide +kernel) (fun H1 locs1 hP hD hS => kk H1 locs1 hP hD hS)
end
/-! the chords, and the choir that makes them -/
def G_Chords (cA : Nat → ClassId) (h0 : Nat) (w : va_W) : Prop := ∃ q1 q2, w = [(h0, .inr (2, [.ref q1, .ref q2])), (q1, .inl (cA 1, 48, .inl (fun _ => 0))), (q2, .inl (cA 1, 4096, .inl (fun _ => 0)))]
theorem mc_Chords : mk_C yX2_init cX2_init 1 2 [.null, .null] [] 1 2 4144 30 G_Chords := fun l D cA h0 sz => met_pre (met_post (c_Chords l D cA h0 sz) (fun _ _ _ _ h => by obtain ⟨⟨h1, q1, q2, hP, hD⟩, hF⟩ := h; exact ⟨⟨h1, _, ⟨q1, q2, rfl⟩, hP, hD⟩, hF⟩)) (fun _ _ ⟨h1, h2, h3, h4, h5, _⟩ => ⟨h1, h2, h3, h4, h5⟩)
theorem wc_X1_1 : Cond.classLink RX1 15 RX2 ∈ k_ws := by decide +kernel
theorem wc_X1_2 : Cond.instantiable RX2 2 ∈ k_ws := by decide +kernel
theorem wc_X1_3 : Cond.initialized RX2 ∈ k_ws := by decide +kernel
theorem wc_X1_4 : Cond.code yX2_init cX2_init 1 none ∈ k_ws := by decide +kernel
theorem wc_X1_5 : Cond.instanceMethod yX2_init ∈ k_ws := by decide +kernel
theorem wc_X1_6 : (RX1, 17, yX2_init) ∈ k_nwC := by decide +kernel
/-- what the choir leaves: chords, notes, best, then the choir and its song -/
def G_Choir (cA : Nat → ClassId) (h0 : Nat) (w : va_W) : Prop := ∃ g q1 q2 q3, w = [(g, .inr (2, [.ref q1, .ref q2])), (q1, .inl (cA 1, 48, .inl (fun _ => 0))), (q2, .inl (cA 1, 4096, .inl (fun _ => 0))), (h0, .inr (1, [.ref q3, .ref g])), (q3, .inl (cA 1, 5, .inl (fun _ => 0)))]
set_option maxHeartbeats 4000000 in
set_option maxRecDepth 100000 in
theorem mc_Choir : mk_C yX1_init cX1_init 1 1 [.null, .null] [] 2 4 4151 60 G_Choir := by
  intro l D cA h0 sz
  refine Met.ofW (cc := cX1_init) (maxL := 1) (ret := none) (by decide) rfl ?_
  intro p e s m args below meth c s₁ B hml hv
  obtain ⟨rfl, hsz, hP, hK, hD0, hnc⟩ := hv
  have hx := B.exec
  have hb := B.bytes
  have hr := B.returns
  have hts := atoms_spec (ws := k_wi yX1_init cX1_init 1) B.pre
  have hown : s.vm.findClass RX1 = some m.cls := findClass_of_methodNamed B.named
  have hin : meth.name = "<init>" := (name_of_methodNamed B.named B.method).1
  subst hsz
  have hD := hD0.self (sz := s.heap.size)
  generalize hAe : va_A [(h0, .inr (1, [.null, .null]))] s.heap.size = A at hD ⊢
  have hA : ∀ q : Nat, s.heap.size ≤ q → A q := fun q h => by rw [← hAe]; exact Or.inr h
  have hS : va_S A s.heap s.heap [] := va_S.rf
  have hl := lv_entry ([.ref h0]) (n := 1) (Nat.le_of_ble_eq_true rfl)
  rw [lg_entry_eq]
  generalize (lg_sl ([.ref h0]) ++ List.replicate (1 - (lg_sl ([.ref h0])).length) Slot.unset).toArray = ls at hl ⊢
  have hl : lv_has ls 1 [(0, .ref h0)] := hl
  refine lv_aload_n hx hb (show decode cX1_init 0 = .ok (.aload_n 0, 1) by decide +kernel) rfl (lv_at hl 0 rfl) ?_
  refine W.objInit hx hb hown (hts _ (List.mem_cons_of_mem _ wn_X1)) (hts _ (List.mem_cons_of_mem _ wo_1)) (hts _ (List.mem_cons_of_mem _ wo_2)) rfl (by rw [hml]; exact hl.1) rfl (show decode cX1_init 1 = .ok (.invokespecial 3, 3) by decide +kernel) (Nat.le_of_ble_eq_true rfl) (Nat.le_of_ble_eq_true rfl) ?_
  refine W.eq (g2 := F0 m 4 ls []) rfl ?_
  refine lv_aload_n hx hb (show decode cX1_init 4 = .ok (.aload_n 0, 1) by decide +kernel) rfl (lv_at hl 0 rfl) ?_
  refine lv_iconst (v := 5) hx hb (show decode cX1_init 5 = .ok (.iconst 5, 1) by decide +kernel) rfl ?_
  refine va_newa (atype := .int) (ty := .int) (N' := 5) (a0 := (5, .inl (fun _ => 0))) hx hb (hts _ (List.mem_cons_of_mem _ wo_4)) rfl hK hP hD hS hA (fun _ => rfl) (by decide) (by decide +kernel) (by decide) (by decide) (by decide) (show decode cX1_init 6 = .ok (.newarray .int, 2) by decide +kernel) (fun q3 c1 H hK1 hP hD hS => ?_)
  have hc1 : c1 = cA 1 := RA_1 (hK1.2 5 (c1, .int) rfl).2 (hK.2 0 (cA 1, .int) rfl).2
  subst hc1
  refine va_putF (ci := 1) (v := .ref q3) (ty := .array .int) (C := RX1) (T := TX1) (N := 2) hx hb hts wu_X1 tyX1 tyX1_ok nmX1 hown hK hP hD hS 0 rfl rfl 0 (by decide) (hts _ (List.mem_cons_of_mem _ wf_X1_0)) (fun _ h9 => h9) rfl hin rfl (by decide +kernel) rfl rfl (Nat.le_of_ble_eq_true rfl) (show decode cX1_init 8 = .ok (.putfield 9, 3) by decide +kernel) (fun H locs hP hD hS => ?_)
  refine lv_aload_n hx hb (show decode cX1_init 11 = .ok (.aload_n 0, 1) by decide +kernel) rfl (lv_at hl 0 rfl) ?_
  refine mk_nest (i1 := 15) (i2 := 17) tyX2 hx hb hml hown hts hnc hl.1 mc_Chords rfl inX2 tyX2_ok wc_X1_1 wc_X1_2 wc_X1_3 (fun j hj => by rcases (show j = 0 ∨ j = 1 by omega) with rfl | rfl <;> rfl) wc_X1_4 wc_X1_6 rfl rfl wc_X1_5 (by decide +kernel) ⟨by decide, by decide⟩ (by decide) (by decide) (Nat.le_of_ble_eq_true rfl) hK hP hD hS hA (show decode cX1_init 12 = .ok (.new 15, 3) by decide +kernel) (show decode cX1_init 15 = .ok (.dup, 1) by decide +kernel) (show decode cX1_init 16 = .ok (.invokespecial 17, 3) by decide +kernel) (fun g w H locs hG hP hD hS => ?_)
  obtain ⟨q1, q2, rfl⟩ := hG
  refine va_putF (ci := 1) (v := .ref g) (ty := .object "MissingNote$Chords") (C := RX1) (T := TX1) (N := 2) hx hb hts wu_X1 tyX1 tyX1_ok nmX1 hown hK hP hD hS 0 rfl rfl 1 (by decide) (hts _ (List.mem_cons_of_mem _ wf_X1_1)) (fun _ h9 => h9) rfl hin rfl (by decide +kernel) rfl rfl (Nat.le_of_ble_eq_true rfl) (show decode cX1_init 19 = .ok (.putfield 18, 3) by decide +kernel) (fun H locs hP hD hS => ?_)
  exact W.vret hx hb hr (fun t ht hW => ⟨⟨rfl, _, ⟨g, q1, q2, q3, rfl⟩, by rw [ht]; exact hP.sub [2, 3, 4, 0, 1] rfl, hD.sub [2, 3, 4, 0, 1] (by decide) rfl⟩, hS.F ht⟩) hS.2.2 (show decode cX1_init 22 = .ok (.return_, 1) by decide +kernel)
/-! the world as a list that counts up -/
def k_fr (ad : Nat → Nat) (h : Nat → Int32) : Nat → List (Option Nat) → List Value
  | _, [] => []
  | i, o :: l => k_fv ad h i o :: k_fr ad h (i + 1) l
def k_ce (cA : Nat → ClassId) (ad : Nat → Nat) (σ : kS) (k : Nat) (c : Nat × Nat × List (Option Nat)) : va_E := match c.1 with
  | 0 => .inr (c.2.1, k_fr ad (σ.1 k) 0 c.2.2)
  | 1 => .inl (cA 1, c.2.1, .inl (σ.1 k))
  | 2 => .inl (cA 2, c.2.1, .inr (.inl (σ.2 k)))
  | 3 => .inl (cA 3, c.2.1, .inl (σ.1 k))
  | n => .inl (cA n, c.2.1, .inr (.inr (.inr (.inr fun i => (c.2.2.getD i none).map ad))))
def k_wl (cA : Nat → ClassId) (ad : Nat → Nat) (σ : kS) : Nat → kH → va_W
  | _, [] => []
  | k, c :: S => (ad k, k_ce cA ad σ k c) :: k_wl cA ad σ (k + 1) S
theorem k_fr_eq (ad : Nat → Nat) (h : Nat → Int32) : ∀ (l : List (Option Nat)) (n : Nat), l.mapIdx (fun i o => k_fv ad h (i + n) o) = k_fr ad h n l
  | [], _ => rfl
  | o :: l, n => by
    rw [List.mapIdx_cons, k_fr, ← k_fr_eq ad h l (n + 1)]
    simp only [Nat.zero_add, Nat.add_assoc, Nat.add_comm 1 n]
theorem k_ce_eq (cA : Nat → ClassId) (ad : Nat → Nat) (σ : kS) (k : Nat) (c : Nat × Nat × List (Option Nat)) : k_cel cA ad σ k c = k_ce cA ad σ k c := by
  obtain ⟨t, n, fs⟩ := c
  rcases t with _ | _ | _ | _ | t
  · show Sum.inr (n, fs.mapIdx (k_fv ad (σ.1 k))) = Sum.inr (n, k_fr ad (σ.1 k) 0 fs)
    rw [← k_fr_eq]
    rfl
  all_goals rfl
theorem k_wl_eq (cA : Nat → ClassId) (ad : Nat → Nat) (σ : kS) : ∀ (S : kH) (n : Nat), S.mapIdx (fun k c => (ad (k + n), k_cel cA ad σ (k + n) c)) = k_wl cA ad σ n S
  | [], _ => rfl
  | c :: S, n => by
    rw [List.mapIdx_cons, k_wl, ← k_wl_eq cA ad σ S (n + 1)]
    simp only [Nat.zero_add, Nat.add_assoc, Nat.add_comm 1 n, k_ce_eq]
theorem k_wd_eq (S : kH) (cA : Nat → ClassId) (ad : Nat → Nat) (σ : kS) : k_wd S cA ad σ = k_wl cA ad σ 0 S := k_wl_eq cA ad σ S 0
