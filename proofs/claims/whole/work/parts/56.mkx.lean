/-! MissingNote's own constructor: its steps -/
/-- what MissingNote's constructor has of a nest mate's class -/
def mk_cls (ci i1 i2 N mc ms : Nat) (fs : List Value) (C : String) (G : (Nat → ClassId) → Nat → va_W → Prop) : Prop := ∃ (T : u_T) (y : MethodName) (b : ByteArray) (ty : Nat → FieldType),
  mk_C y b 1 ci fs [] 1 mc ms 30 G ∧ vwCl[ci]? = some (C, T, N) ∧ (∀ w ∈ u_ws C T N, w ∈ k_ws) ∧ (∀ k, k < N → parseFieldDescriptor (T k).2.2.1 = some (ty k)) ∧ (Cond.classLink RX8 i1 C ∈ k_ws ∧ Cond.instantiable C N ∈ k_ws ∧ Cond.initialized C ∈ k_ws) ∧ (∀ j, j < N → defaultValue (ty j) = vp_V fs j) ∧ Cond.code y b 1 none ∈ k_ws ∧ (i2, y) ∈ k_nwC ∧ (y.cls = C ∧ y.name = "<init>") ∧ Cond.instanceMethod y ∈ k_ws ∧ (C ≠ "java/lang/invoke/MethodHandle" ∧ C ≠ "java/lang/invoke/VarHandle" ∧ (parseMethodDescriptor y.desc).map (fun d => d.parameters.length) = some 0)
/-- the frame of MissingNote's constructor -/
def cx_E (p : Program) (s : State) (m : MethodId) (args : Array Value) (meth : Method) (c : Code) (D : va_G) (cA : Nat → ClassId) (A : Nat → Prop) : Prop := p.tables.exec = Jvm.exec ∧ c.code = cX8_init ∧ c.maxLocals = 2 ∧ s.vm.findClass RX8 = some m.cls ∧ meth.name = "<init>" ∧ (∀ w ∈ k_wi yX8_init cX8_init 2, w.before args s = true) ∧ k_nc s ∧ (va_AO RX7 s ∧ va_AO RX4 s) ∧ va_K D vwCl (k_ty cA) s ∧ (∀ q, s.heap.size ≤ q → A q)
/-- a field of MissingNote, final, of this type -/
def cx_f (idx k : Nat) (ty : FieldType) : Prop := k < 10 ∧ Cond.fieldLink RX8 idx RX8 (TX8 k).2.1 (TX8 k).2.2.1 ∈ k_ws ∧ (TX8 k).1 = RX8 ∧ (TX8 k).2.2.2 = true ∧ parseFieldDescriptor (TX8 k).2.2.1 = some ty
section
variable {p : Program} {l : Launch} {e : Env} {R : Room} {s : State} {m : MethodId} {args : Array Value} {below : List Frame} {meth : Method} {c : Code} {H : Heap} {locs : List Loc} {cells slots : Nat} {Q : State → Prop} {pc : Nat} {ls : Array Slot} {rest : List Value} {D : va_G} {cA : Nat → ClassId} {A : Nat → Prop}
theorem cx_new {ws : va_W} {ci i1 i2 N mc ms : Nat} {fs : List Value} {C : String} {G : (Nat → ClassId) → Nat → va_W → Prop} (hB : mk_cls ci i1 i2 N mc ms fs C G) (E : cx_E p s m args meth c D cA A) (hls : ls.size = 2) (hR : 2 ≤ R.frames ∧ 50 ≤ R.locals) (hc : cells + 1 + mc ≤ R.cells) (hs : slots + N + ms ≤ R.slots) (hcat : (rest.map fun v => v.category).sum ≤ 7)
    (hP : va_P D vwCl ws H) (hD : va_D A ws) (hS : va_S A s.heap H locs)
    (d1 : decode cX8_init pc = .ok (.new i1, 3)) (d2 : decode cX8_init (pc + 3) = .ok (.dup, 1)) (d3 : decode cX8_init (pc + 4) = .ok (.invokespecial i2, 3))
    (kk : ∀ (q : Nat) (w : va_W) (H1 : Heap) (locs1 : List Loc), G cA q w → va_P D vwCl (ws ++ w) H1 → va_D A (ws ++ w) → va_S A s.heap H1 locs1 → W p l e R s m args below meth c H1 locs1 (cells + 1 + mc) (slots + N + ms) Q (F0 m (pc + 7) ls (.ref q :: rest))) :
    W p l e R s m args below meth c H locs cells slots Q (F0 m pc ls rest) := by
  obtain ⟨T, y, b, ty, h1, h2, h3, h4, ⟨h5, h6, h7⟩, h8, h9, h10, ⟨h11, h12⟩, h13, h14⟩ := hB
  obtain ⟨e1, e2, e3, e4, e5, e6, e7, e8, e9, e10⟩ := E
  exact mk_nest ty e1 e2 e3 e4 e6 e7 hls h1 h2 h3 h4 h5 h6 h7 h8 h9 h10 h11 h12 h13 h14 ⟨hR.1, by omega⟩ hc hs hcat e9 hP hD hS e10 d1 d2 d3 kk
/-- putfield of a reference into the object itself -/
theorem cx_put {wr : va_W} {fs : List Value} {h0 q idx k : Nat} {ty : FieldType} (E : cx_E p s m args meth c D cA A) (hf : cx_f idx k ty) (hn : narrow ty (.ref q) = .ref q) (hfit : fits ty (.ref q) = true) (hlen : k < fs.length)
    (hP : va_P D vwCl ((h0, .inr (8, fs)) :: wr) H) (hD : va_D A ((h0, .inr (8, fs)) :: wr)) (hS : va_S A s.heap H locs) (d : decode cX8_init pc = .ok (.putfield idx, 3))
    (kk : ∀ (H1 : Heap) (locs1 : List Loc), va_P D vwCl ((h0, .inr (8, fs.set k (.ref q))) :: wr) H1 → va_D A ((h0, .inr (8, fs.set k (.ref q))) :: wr) → va_S A s.heap H1 locs1 → W p l e R s m args below meth c H1 locs1 cells slots Q (F0 m (pc + 3) ls rest)) :
    W p l e R s m args below meth c H locs cells slots Q (F0 m pc ls (.ref q :: .ref h0 :: rest)) := by
  obtain ⟨e1, e2, e3, e4, e5, e6, e7, e8, e9, e10⟩ := E
  obtain ⟨f1, f2, f3, f4, f5⟩ := hf
  refine va_putF (ci := 8) (v := .ref q) (ty := ty) (C := RX8) (T := TX8) (N := 10) e1 e2 e6 (fun w h => List.mem_cons_of_mem _ (inX8 w h)) tyX8 tyX8_ok nmX8 e4 e9 hP hD hS 0 rfl rfl k f1 (e6 _ (List.mem_cons_of_mem _ f2)) (fun x h9 => by rw [f3] at h9; exact h9) f4 e5 f3 f5 hn hfit hlen d (fun H1 locs1 hP hD hS => ?_)
  exact kk H1 locs1 hP hD hS
/-- getfield of the object itself -/
theorem cx_get {ws : va_W} {fs : List Value} {h0 idx k : Nat} {ty : FieldType} {v : Value} (E : cx_E p s m args meth c D cA A) (hf : cx_f idx k ty) (he : ws[0]? = some (h0, .inr (8, fs))) (hv : fs[k]? = some v) (hP : va_P D vwCl ws H) (d : decode cX8_init pc = .ok (.getfield idx, 3))
    (kk : W p l e R s m args below meth c H locs cells slots Q (F0 m (pc + 3) ls (v :: rest))) : W p l e R s m args below meth c H locs cells slots Q (F0 m pc ls (.ref h0 :: rest)) := by
  obtain ⟨e1, e2, e3, e4, e5, e6, e7, e8, e9, e10⟩ := E
  obtain ⟨f1, f2, f3, f4, f5⟩ := hf
  exact va_get (D := D) (ci := 8) (v := v) (C := RX8) (T := TX8) (N := 10) e1 e2 e6 (fun w h => List.mem_cons_of_mem _ (inX8 w h)) e4 e9 hP 0 he rfl k f1 (e6 _ (List.mem_cons_of_mem _ f2)) (fun x h9 => by rw [f3] at h9; exact h9) hv d kk
/-- a field that holds a new object -/
theorem cx_fld {wr : va_W} {ci i1 i2 N mc ms idx k h0 : Nat} {fs fs1 : List Value} {C : String} {G : (Nat → ClassId) → Nat → va_W → Prop} (hB : mk_cls ci i1 i2 N mc ms fs1 C G) (E : cx_E p s m args meth c D cA A) (hf : cx_f idx k (.object C)) (hls : ls.size = 2) (hl : ls[0]? = some (.val (.ref h0))) (hR : 2 ≤ R.frames ∧ 50 ≤ R.locals) (hc : cells + 1 + mc ≤ R.cells) (hs : slots + N + ms ≤ R.slots) (hlen : k < fs.length)
    (hP : va_P D vwCl ((h0, .inr (8, fs)) :: wr) H) (hD : va_D A ((h0, .inr (8, fs)) :: wr)) (hS : va_S A s.heap H locs)
    (d0 : decode cX8_init pc = .ok (.aload_n 0, 1)) (d1 : decode cX8_init (pc + 1) = .ok (.new i1, 3)) (d2 : decode cX8_init (pc + 1 + 3) = .ok (.dup, 1)) (d3 : decode cX8_init (pc + 1 + 4) = .ok (.invokespecial i2, 3)) (d4 : decode cX8_init (pc + 1 + 7) = .ok (.putfield idx, 3))
    (kk : ∀ (q : Nat) (w : va_W) (H1 : Heap) (locs1 : List Loc), G cA q w → va_P D vwCl ((h0, .inr (8, fs.set k (.ref q))) :: (wr ++ w)) H1 → va_D A ((h0, .inr (8, fs.set k (.ref q))) :: (wr ++ w)) → va_S A s.heap H1 locs1 → W p l e R s m args below meth c H1 locs1 (cells + 1 + mc) (slots + N + ms) Q (F0 m (pc + 1 + 7 + 3) ls [])) :
    W p l e R s m args below meth c H locs cells slots Q (F0 m pc ls []) := by
  refine lv_aload_n E.1 E.2.1 d0 rfl hl ?_
  refine cx_new hB E hls hR hc hs (Nat.le_of_ble_eq_true rfl) hP hD hS d1 d2 d3 (fun q w H locs hG hP hD hS => ?_)
  exact cx_put (h0 := h0) (q := q) (wr := wr ++ w) E hf rfl rfl hlen hP hD hS d4 (fun H1 locs1 hP hD hS => kk q w H1 locs1 hG hP hD hS)
/-- a field that holds a new row of references -/
theorem cx_row {wr : va_W} {i1 idx k h0 cn tn N' : Nat} {n : Int32} {fs : List Value} {C : String} (E : cx_E p s m args meth c D cA A) (hf : cx_f idx k (.array (.object C))) (hao : va_AO C s) (hlk : Cond.classLink RX8 i1 C ∈ k_ws) (htn : (k_ty cA)[tn]? = some (cA cn, .object C)) (hl : ls[0]? = some (.val (.ref h0))) (hn : ¬ n < 0) (hN : n.toNatClampNeg = N') (hby : N' * 4 ≤ 536870912) (hc : cells + 1 ≤ R.cells) (hs : slots + N' ≤ R.slots) (hlen : k < fs.length)
    (hP : va_P D vwCl ((h0, .inr (8, fs)) :: wr) H) (hD : va_D A ((h0, .inr (8, fs)) :: wr)) (hS : va_S A s.heap H locs)
    (d0 : decode cX8_init pc = .ok (.aload_n 0, 1)) {z : Int} (d1 : decode cX8_init (pc + 1) = .ok (.iconst z, 1)) (hz : Int32.ofInt z = n) (d2 : decode cX8_init (pc + 1 + 1) = .ok (.anewarray i1, 3)) (d4 : decode cX8_init (pc + 1 + 1 + 3) = .ok (.putfield idx, 3))
    (kk : ∀ (q : Nat) (H1 : Heap) (locs1 : List Loc), va_P D vwCl ((h0, .inr (8, fs.set k (.ref q))) :: (wr ++ [(q, .inl (cA cn, N', .inr (.inr (.inr (.inr (fun _ => none))))))])) H1 → va_D A ((h0, .inr (8, fs.set k (.ref q))) :: (wr ++ [(q, .inl (cA cn, N', .inr (.inr (.inr (.inr (fun _ => none))))))])) → va_S A s.heap H1 locs1 → W p l e R s m args below meth c H1 locs1 (cells + 1) (slots + N') Q (F0 m (pc + 1 + 1 + 3 + 3) ls [])) :
    W p l e R s m args below meth c H locs cells slots Q (F0 m pc ls []) := by
  refine lv_aload_n E.1 E.2.1 d0 rfl hl ?_
  refine lv_iconst E.1 E.2.1 d1 hz ?_
  refine va_newq E.1 E.2.1 E.2.2.2.1 (E.2.2.2.2.2.1 _ (List.mem_cons_of_mem _ hlk)) hao E.2.2.2.2.2.2.2.2.1 hP hD hS E.2.2.2.2.2.2.2.2.2 hn hN hby hc hs d2 (fun q c1 H hK1 hP hD hS => ?_)
  have hc1 : c1 = cA cn := RA_1 (hK1.2 5 (c1, .object C) rfl).2 (E.2.2.2.2.2.2.2.2.1.2 tn _ htn).2
  subst hc1
  have hP : va_P D vwCl ((h0, .inr (8, fs)) :: (wr ++ [(q, .inl (cA cn, N', .inr (.inr (.inr (.inr (fun _ => none))))))])) H := hP
  have hD : va_D A ((h0, .inr (8, fs)) :: (wr ++ [(q, .inl (cA cn, N', .inr (.inr (.inr (.inr (fun _ => none))))))])) := hD
  exact cx_put E hf rfl rfl hlen hP hD hS d4 (fun H1 locs1 hP hD hS => kk q H1 locs1 hP hD hS)
/-- the choir knows the chords -/
theorem cx_choir {wr : va_W} {h0 g0 : Nat} {fs : List Value} (E : cx_E p s m args meth c D cA A) (h40 : cx_f 40 5 (.object RX2)) (h49 : cx_f 49 6 (.object RX1)) (w1 : Cond.classLink RX8 44 RX1 ∈ k_ws) (w2 : Cond.instantiable RX1 2 ∈ k_ws) (w3 : Cond.initialized RX1 ∈ k_ws) (w4 : Cond.code yX1_init cX1_init 2 none ∈ k_ws) (w5 : Cond.methodLink RX8 46 yX1_init ∈ k_ws) (w6 : Cond.instanceMethod yX1_init ∈ k_ws) (hls : ls.size = 2) (hl : ls[0]? = some (.val (.ref h0))) (hR : 2 ≤ R.frames ∧ 51 ≤ R.locals) (hc : cells + 1 + 1 ≤ R.cells) (hs : slots + 2 + 5 ≤ R.slots) (hlen : 6 < fs.length) (hg : fs[5]? = some (.ref g0))
    (hP : va_P D vwCl ((h0, .inr (8, fs)) :: wr) H) (hD : va_D A ((h0, .inr (8, fs)) :: wr)) (hS : va_S A s.heap H locs)
    (kk : ∀ (q q1 : Nat) (H1 : Heap) (locs1 : List Loc), va_P D vwCl ((h0, .inr (8, fs.set 6 (.ref q))) :: (wr ++ [(q, .inr (1, [.ref q1, .ref g0])), (q1, .inl (cA 1, 5, .inl (fun _ => 0)))])) H1 → va_D A ((h0, .inr (8, fs.set 6 (.ref q))) :: (wr ++ [(q, .inr (1, [.ref q1, .ref g0])), (q1, .inl (cA 1, 5, .inl (fun _ => 0)))])) → va_S A s.heap H1 locs1 → W p l e R s m args below meth c H1 locs1 (cells + 1 + 1) (slots + 2 + 5) Q (F0 m 82 ls [])) :
    W p l e R s m args below meth c H locs cells slots Q (F0 m 67 ls []) := by
  have wd := fun w h => E.2.2.2.2.2.1 w (List.mem_cons_of_mem _ h)
  refine lv_aload_n E.1 E.2.1 (show decode cX8_init 67 = .ok (.aload_n 0, 1) by decide +kernel) rfl hl ?_
  refine va_new (ci := 1) (fs := [.null, .null]) (C := RX1) (T := TX1) (N := 2) E.1 E.2.1 E.2.2.2.2.2.1 (fun w h => List.mem_cons_of_mem _ (inX1 w h)) tyX1 tyX1_ok E.2.2.2.1 (wd _ w1) (wd _ w2) (wd _ w3) E.2.2.2.2.2.2.2.2.1 hP hD hS E.2.2.2.2.2.2.2.2.2 rfl (fun j hj => by rcases (show j = 0 ∨ j = 1 by omega) with rfl | rfl <;> rfl) (by omega) (by omega) (show decode cX8_init 68 = .ok (.new 44, 3) by decide +kernel) (fun q H hP hD hS => ?_)
  refine lv_dup E.1 E.2.1 (show decode cX8_init 71 = .ok (.dup, 1) by decide +kernel) rfl ?_
  refine lv_aload_n E.1 E.2.1 (show decode cX8_init 72 = .ok (.aload_n 0, 1) by decide +kernel) rfl hl ?_
  refine cx_get (pc := 73) (fs := fs) (v := .ref g0) E h40 rfl hg hP (show decode cX8_init 73 = .ok (.getfield 40, 3) by decide +kernel) ?_
  have hPc : va_P D vwCl [(q, .inr (1, [.null, .null]))] H := hP.sub [((h0, Sum.inr (8, fs)) :: wr).length] (by simp)
  have hDc : va_D A [(q, .inr (1, [.null, .null]))] := hD.sub [((h0, Sum.inr (8, fs)) :: wr).length] rfl (by simp)
  have hFc := va_free (wc := [(q, .inr (1, [.null, .null]))]) hD hS E.2.2.2.2.2.2.2.2.2 [((h0, Sum.inr (8, fs)) :: wr).length] (by simp)
  refine mk_back (A1 := va_A [(q, .inr (1, [.null, .null]))] H.size) (pc := 76) (rest := [.ref q, .ref h0]) (a := #[]) (va_runI (As := [.ref g0]) (rest := [.ref q, .ref h0]) ⟨E.1, E.2.1, E.2.2.1, E.2.2.2.1, E.2.2.2.2.2.1⟩ (c_Choir l D cA q g0 H.size) ⟨callB_of 1 E.2.2.2.2.2.1 (k_gi w4) rfl rfl rfl (wd _ w3) (wd _ w5) (by decide +kernel) ⟨hR.1, hR.2⟩, rfl, wd _ w6⟩ ⟨mk_blind, fun U hU hW => ⟨rfl, by rw [hU], by rw [hU]; exact hPc, va_K.moved hW.alike E.2.2.2.2.2.2.2.2.1, hDc.weaken (fun _ _ _ _ => trivial)⟩⟩ rfl rfl hls rfl (lv_room (Nat.le_of_ble_eq_true rfl)) (show decode cX8_init 76 = .ok (.invokespecial 46, 3) by decide +kernel) ⟨hc, hs⟩) hS hFc (fun t H1 locs1 ht hp hk hS => ?_)
  obtain ⟨q1, hP1, hD1⟩ := hp
  rw [ht] at hP1
  obtain ⟨hP, hD⟩ := mk_join hP hD hk hFc hP1 hD1
  have hP : va_P D vwCl ((h0, .inr (8, fs)) :: (wr ++ [(q, .inr (1, [.ref q1, .ref g0])), (q1, .inl (cA 1, 5, .inl (fun _ => 0)))])) H1 := hP
  have hD : va_D A ((h0, .inr (8, fs)) :: (wr ++ [(q, .inr (1, [.ref q1, .ref g0])), (q1, .inl (cA 1, 5, .inl (fun _ => 0)))])) := hD
  exact cx_put (pc := 79) E h49 rfl rfl hlen hP hD hS (show decode cX8_init 79 = .ok (.putfield 49, 3) by decide +kernel) (fun H1 locs1 hP hD hS => kk q q1 H1 locs1 hP hD hS)
end
/-! the world as a list that counts up -/
def k_fr (ad : Nat → Nat) (h : Nat → Int32) : Nat → List (Option Nat) → List Value
  | _, [] => []
  | i, o :: l => k_fv ad h i o :: k_fr ad h (i + 1) l
def k_ce (cA : Nat → ClassId) (ad : Nat → Nat) (σ : kS) (k : Nat) (c : Nat × Nat × List (Option Nat)) : va_E := match c.1 with
  | 0 => .inr (c.2.1, k_fr ad (σ.1 k) 0 c.2.2)
  | 1 => .inl (cA 1, c.2.1, .inl (σ.1 k))
  | 2 => .inl (cA 2, c.2.1, .inr (.inl (σ.2 k)))
  | 3 => .inl (cA 3, c.2.1, .inl (σ.1 k))
  | n => .inl (cA n, c.2.1, .inr (.inr (.inr (.inr fun i => (c.2.2.getD i none).map ad))))
def k_wl (cA : Nat → ClassId) (ad : Nat → Nat) (σ : kS) : Nat → kH → va_W
  | _, [] => []
  | k, c :: S => (ad k, k_ce cA ad σ k c) :: k_wl cA ad σ (k + 1) S
theorem k_fr_eq (ad : Nat → Nat) (h : Nat → Int32) : ∀ (l : List (Option Nat)) (n : Nat), l.mapIdx (fun i o => k_fv ad h (i + n) o) = k_fr ad h n l
  | [], _ => rfl
  | o :: l, n => by
    rw [List.mapIdx_cons, k_fr, ← k_fr_eq ad h l (n + 1)]
    simp only [Nat.zero_add, Nat.add_assoc, Nat.add_comm 1 n]
theorem k_ce_eq (cA : Nat → ClassId) (ad : Nat → Nat) (σ : kS) (k : Nat) (c : Nat × Nat × List (Option Nat)) : k_cel cA ad σ k c = k_ce cA ad σ k c := by
  obtain ⟨t, n, fs⟩ := c
  rcases t with _ | _ | _ | _ | t
  · show Sum.inr (n, fs.mapIdx (k_fv ad (σ.1 k))) = Sum.inr (n, k_fr ad (σ.1 k) 0 fs)
    rw [← k_fr_eq]
    rfl
  all_goals rfl
theorem k_wl_eq (cA : Nat → ClassId) (ad : Nat → Nat) (σ : kS) : ∀ (S : kH) (n : Nat), S.mapIdx (fun k c => (ad (k + n), k_cel cA ad σ (k + n) c)) = k_wl cA ad σ n S
  | [], _ => rfl
  | c :: S, n => by
    rw [List.mapIdx_cons, k_wl, ← k_wl_eq cA ad σ S (n + 1)]
    simp only [Nat.zero_add, Nat.add_assoc, Nat.add_comm 1 n, k_ce_eq]
theorem k_wd_eq (S : kH) (cA : Nat → ClassId) (ad : Nat → Nat) (σ : kS) : k_wd S cA ad σ = k_wl cA ad σ 0 S := k_wl_eq cA ad σ S 0
