/-! an object made: what its <init> leaves stands beside the rest -/
theorem va_nd_of : ∀ (l : List Nat), l.Nodup → va_nd l = true
  | [], _ => rfl
  | a :: l, h => by
    simp only [va_nd, Bool.and_eq_true, decide_eq_true_eq]
    exact ⟨(List.nodup_cons.mp h).1, va_nd_of l (List.nodup_cons.mp h).2⟩
theorem mk_join {D : va_G} {A : Nat → Prop} {ws w1 : va_W} {x : Nat × va_E} {H H1 : Heap} (hP : va_P D vwCl (ws ++ [x]) H) (hD : va_D A (ws ++ [x])) (hk : ∀ q : Nat, q < H.size → ¬ va_A [x] H.size q → H1[q]? = H[q]?) (hF : ∀ q, va_A [x] H.size q → A q) (hP1 : va_P D vwCl w1 H1) (hD1 : va_D (va_A [x] H.size) w1) : va_P D vwCl (ws ++ w1) H1 ∧ va_D A (ws ++ w1) := by
  refine va_join hP hD [ws.length] (List.range ws.length) (by simp) ?_ (va_nd_of _ List.nodup_range) (fun i hi h2 => ?_) hk hF hP1 hD1
  · apply List.ext_getElem?
    intro i
    by_cases hi : i < ws.length
    · simp only [List.getElem?_map, List.getElem?_range hi, Option.map_some]
      rw [List.getElem?_append_left hi, List.getElem?_eq_getElem hi]
      rfl
    · simp [Nat.le_of_not_lt hi]
  · have h3 := List.mem_range.mp hi
    have h4 := List.mem_singleton.mp h2
    omega
theorem mk_blind {D : va_G} {cA : Nat → ClassId} {sz : Nat} {w : va_W} {av : List Value} : FrameBlind (va_Pc av (fun U => U.heap.size = sz ∧ va_P D vwCl w U.heap ∧ va_K D vwCl (k_ty cA) U ∧ va_D (fun _ => True) w)) := by
  intro a U g mk q
  obtain ⟨q0, q1, qP, qK, qD⟩ := q
  exact ⟨q0, q1, qP, va_K.moved (u := U) (U := U.calling g mk a) (Vm.Alike.refl U.vm) qK, qD⟩
section
variable {p : Program} {l : Launch} {e : Env} {R : Room} {s : State} {m : MethodId} {args : Array Value} {below : List Frame} {meth : Method} {c : Code} {H : Heap} {locs : List Loc} {cells slots mc ms : Nat} {Q : State → Prop}
theorem mk_back {pc : Nat} {ls : Array Slot} {st0 rest : List Value} {A A1 : Nat → Prop} {H0 : Heap} {P : State → Prop} {a : Array Value} (hr : va_Run p l e R s m args below meth c H locs cells slots mc ms (F0 m pc ls st0) rest (fun st oc t => (oc = .returned none ∧ P t) ∧ va_F A1 st t) A1) (hS : va_S A H0 H locs) (hF : ∀ q, A1 q → A q)
    (kk : ∀ (t : State) (H1 : Heap) (locs1 : List Loc), t.heap = H1 → P t → (∀ q : Nat, q < H.size → ¬ A1 q → H1[q]? = H[q]?) → va_S A H0 H1 locs1 → W p l e R s m args below meth c H1 locs1 (cells + mc) (slots + ms) Q (F0 m (pc + 3) ls rest)) : W p l e R s m args below meth c H locs cells slots Q (F0 m pc ls st0) := by
  intro T hT X
  obtain ⟨v, st₀, t, T', L, h0, X', hL, e1, e2, ⟨⟨hv, hp⟩, hz, hk⟩, st⟩ := hr T hT X
  cases hv
  rw [h0] at hz hk
  obtain ⟨t2, a1, b1⟩ := kk t T'.heap (locs ++ L) e1.symm hp (fun q h1 h2 => by rw [e1]; exact hk q h1 h2)
    ⟨Nat.le_trans hS.1 (by rw [e1]; exact hz), fun q h1 h2 => by rw [e1, hk q (Nat.lt_of_lt_of_le h1 hS.1) (fun z => h2 (hF q z))]; exact hS.2.1 q h1 h2, fun q hq => by
      rcases List.mem_append.mp hq with h | h
      · exact hS.2.2 q h
      · exact hF _ (hL q h)⟩ T' rfl X'
  exact ⟨t2, st t2 a1, b1⟩
end
/-- the words of a constructor among another's -/
theorem k_gi {y z : MethodName} {b d : ByteArray} {n k : Nat} (hc : Cond.code z d k none ∈ k_ws) : GoodIn (k_wi y b n) (k_wi z d k) := by
  intro w hw
  rcases List.mem_cons.mp hw with e | h2
  · subst e
    exact ⟨List.mem_cons_of_mem _ hc, good_of_word (k_ws_good _ hc)⟩
  · exact ⟨List.mem_cons_of_mem _ h2, good_of_word (k_ws_good _ h2)⟩
def k_nwC : List (String × Nat × MethodName) := [(RX8, 9, yX6_init), (RX8, 18, yX7_init), (RX8, 32, yX0_init), (RX8, 39, yX1_init), (RX8, 51, yX5_init), (RX8, 58, yX3_init), (RX8, 69, yX4_init), (RX1, 17, yX2_init)]
def k_nc (U : State) : Prop := ∀ q ∈ k_nwC, va_Nw (.methodLinkNest q.1 q.2.1 q.2.2 RX8) U
theorem k_nc_same {u U : State} (h : u.vm = U.vm) (hZ : k_nc u) : k_nc U := fun q hq => va_Nw.same rfl h (hZ q hq)
theorem k_nc_warm {s U : State} (h : s.WarmedH U.vm) (hZ : k_nc s) : k_nc U := fun q hq => va_Nw.warmM h (hZ q hq)
theorem mk_blindN {D : va_G} {cA : Nat → ClassId} {sz : Nat} {w : va_W} {av : List Value} : FrameBlind (va_Pc av (fun U => U.heap.size = sz ∧ va_P D vwCl w U.heap ∧ va_K D vwCl (k_ty cA) U ∧ va_D (fun _ => True) w ∧ k_nc U)) := by
  intro a U g mk q
  obtain ⟨q0, q1, qP, qK, qD, qN⟩ := q
  exact ⟨q0, q1, qP, va_K.moved (u := U) (U := U.calling g mk a) (Vm.Alike.refl U.vm) qK, qD, k_nc_same (u := U) (U := U.calling g mk a) rfl qN⟩
/-- a constructor's contract -/
def mk_C (y : MethodName) (b : ByteArray) (n ci : Nat) (fs : List Value) (As : List Value) (fr mc ms lo : Nat) (G : (Nat → ClassId) → Nat → va_W → Prop) : Prop :=
  ∀ (l : Launch) (D : va_G) (cA : Nat → ClassId) (h0 sz : Nat), Met l y (k_wi y b n) ({ frames := fr, cells := mc, slots := ms, locals := lo }) (va_Pc (.ref h0 :: As) (fun U => U.heap.size = sz ∧ va_P D vwCl [(h0, .inr (ci, fs))] U.heap ∧ va_K D vwCl (k_ty cA) U ∧ va_D (fun _ => True) [(h0, .inr (ci, fs))] ∧ k_nc U))
    (fun _ st oc t => (oc = .returned none ∧ ∃ w, G cA h0 w ∧ va_P D vwCl w t.heap ∧ va_D (va_A [(h0, .inr (ci, fs))] sz) w) ∧ va_F (va_A [(h0, .inr (ci, fs))] sz) st t) mc ms (va_A [(h0, .inr (ci, fs))] sz)
/-- new, dup, <init> of a nest mate, in a constructor -/
theorem mk_nest {p : Program} {l : Launch} {e : Env} {R : Room} {s : State} {m : MethodId} {args : Array Value} {below : List Frame} {meth : Method} {c : Code} {H : Heap} {locs : List Loc} {cells slots : Nat} {Q : State → Prop} {pc : Nat} {ls : Array Slot} {rest : List Value} {D : va_G} {cA : Nat → ClassId} {A : Nat → Prop} {ws : va_W}
    {C Ho : String} {T : u_T} {N ci i1 i2 n mc ms fr lo nL : Nat} {y yo : MethodName} {b co : ByteArray} {fs : List Value} {G : (Nat → ClassId) → Nat → va_W → Prop} (ty : Nat → FieldType)
    (hx : p.tables.exec = Jvm.exec) (hb : c.code = co) (hml : c.maxLocals = nL) (hown : s.vm.findClass Ho = some m.cls) (hts : ∀ w ∈ k_wi yo co nL, w.before args s = true) (hnc : k_nc s) (hls : ls.size = nL)
    (hM : mk_C y b n ci fs [] fr mc ms lo G) (hcl : vwCl[ci]? = some (C, T, N)) (hin : ∀ w ∈ u_ws C T N, w ∈ k_ws) (hty : ∀ k, k < N → parseFieldDescriptor (T k).2.2.1 = some (ty k)) (hlk : Cond.classLink Ho i1 C ∈ k_ws) (hit : Cond.instantiable C N ∈ k_ws) (hini : Cond.initialized C ∈ k_ws) (hfs : ∀ j, j < N → defaultValue (ty j) = vp_V fs j)
    (hcode : Cond.code y b n none ∈ k_ws) (hq : (Ho, i2, y) ∈ k_nwC) (hyc : y.cls = C) (hyn : y.name = "<init>") (hyi : Cond.instanceMethod y ∈ k_ws) (hyd : C ≠ "java/lang/invoke/MethodHandle" ∧ C ≠ "java/lang/invoke/VarHandle" ∧ (parseMethodDescriptor y.desc).map (fun d => d.parameters.length) = some 0)
    (hR : fr + 1 ≤ R.frames ∧ 8 + (n + 11) + lo ≤ R.locals) (hc : cells + 1 + mc ≤ R.cells) (hs : slots + N + ms ≤ R.slots) (hcat : (rest.map fun v => v.category).sum ≤ 7)
    (hK : va_K D vwCl (k_ty cA) s) (hP : va_P D vwCl ws H) (hD : va_D A ws) (hS : va_S A s.heap H locs) (hA : ∀ q, s.heap.size ≤ q → A q)
    (d1 : decode co pc = .ok (.new i1, 3)) (d2 : decode co (pc + 3) = .ok (.dup, 1)) (d3 : decode co (pc + 4) = .ok (.invokespecial i2, 3))
    (kk : ∀ (q : Nat) (w : va_W) (H1 : Heap) (locs1 : List Loc), G cA q w → va_P D vwCl (ws ++ w) H1 → va_D A (ws ++ w) → va_S A s.heap H1 locs1 → W p l e R s m args below meth c H1 locs1 (cells + 1 + mc) (slots + N + ms) Q (F0 m (pc + 7) ls (.ref q :: rest))) :
    W p l e R s m args below meth c H locs cells slots Q (F0 m pc ls rest) := by
  have wd := fun w h => hts w (List.mem_cons_of_mem _ h)
  refine va_new (ci := ci) (fs := fs) (C := C) (T := T) (N := N) hx hb hts (fun w h => List.mem_cons_of_mem _ (hin w h)) ty hty hown (wd _ hlk) (wd _ hit) (wd _ hini) hK hP hD hS hA hcl hfs (by omega) (by omega) d1 (fun q H hP hD hS => ?_)
  refine lv_dup hx hb d2 rfl ?_
  have hPc : va_P D vwCl [(q, .inr (ci, fs))] H := hP.sub [ws.length] (by simp)
  have hDc : va_D A [(q, .inr (ci, fs))] := hD.sub [ws.length] rfl (by simp)
  have hFc := va_free (wc := [(q, .inr (ci, fs))]) hD hS hA [ws.length] (by simp)
  refine mk_back (A1 := va_A [(q, .inr (ci, fs))] H.size) (rest := .ref q :: rest) (a := #[]) (va_runIN (As := []) (rest := .ref q :: rest) ⟨hx, hb, hml, hown, hts⟩ (hM l D cA q H.size) ⟨va_cnB (host := RX8) 0 hts (k_gi hcode) rfl rfl rfl (hnc _ hq) (by rw [hyc]; exact wd _ hini) (by rw [hyc]; exact hyd) hR, hyn, wd _ hyi⟩ ⟨mk_blindN, fun U hU hW => ⟨rfl, by rw [hU], by rw [hU]; exact hPc, va_K.moved hW.alike hK, hDc.weaken (fun _ _ _ _ => trivial), k_nc_warm hW hnc⟩⟩ rfl rfl hls rfl (lv_room (by simp only [List.map_cons, List.sum_cons]; show 1 + _ ≤ 8; omega)) d3 ⟨hc, hs⟩) hS hFc (fun t H1 locs1 ht hp hk hS => ?_)
  obtain ⟨w, hG, hP1, hD1⟩ := hp
  rw [ht] at hP1
  obtain ⟨hP, hD⟩ := mk_join hP hD hk hFc hP1 hD1
  exact kk q w H1 locs1 hG hP hD hS
theorem met_post {l : Launch} {y : MethodName} {ws : List Cond} {rm : Room} {Pc : Array Value → State → Prop} {Qc Qd : Array Value → State → Outcome → State → Prop} {mc ms : Nat} {free : Addr → Prop} (h : Met l y ws rm Pc Qc mc ms free) (hq : ∀ a st o t, Qc a st o t → Qd a st o t) : Met l y ws rm Pc Qd mc ms free := by
  intro p e ha hc hk s m args below hf happ hP hK
  obtain ⟨k, o, h1, h2, h3, hQ, hL⟩ := h p e ha hc hk s m args below hf happ hP hK
  exact ⟨k, o, h1, h2, h3, hq _ _ _ _ hQ, hL⟩
theorem met_pre {l : Launch} {y : MethodName} {ws : List Cond} {rm : Room} {Pc Pd : Array Value → State → Prop} {Qc : Array Value → State → Outcome → State → Prop} {mc ms : Nat} {free : Addr → Prop} (h : Met l y ws rm Pc Qc mc ms free) (hp : ∀ a st, Pd a st → Pc a st) : Met l y ws rm Pd Qc mc ms free := by
  intro p e ha hc hk s m args below hf happ hP hK
  exact h p e ha hc hk s m args below hf happ (hp _ _ hP) hK
/-- aload_0, n, newarray, putfield of a final row: one step of a constructor -/
theorem mk_arr {p : Program} {l : Launch} {e : Env} {R : Room} {s : State} {m : MethodId} {args : Array Value} {below : List Frame} {meth : Method} {c : Code} {H : Heap} {locs : List Loc} {cells slots : Nat} {Q : State → Prop} {pc w : Nat} {ls : Array Slot} {D : va_G} {cA : Nat → ClassId} {A : Nat → Prop} {wr : va_W} {fs : List Value} {y : MethodName} {cc : ByteArray} {nL h0 ci N idx : Nat} {C : String} {T : u_T} {ty0 : Nat → FieldType} {a0 : vp_A}
    (k cn tn N' : Nat) (atype : ArrayType) (ety : FieldType) (n : Int32) (hty0 : newarray.typeOf atype = ety) (hx : p.tables.exec = Jvm.exec) (hb : c.code = cc) (hown : s.vm.findClass C = some m.cls) (hin2 : meth.name = "<init>") (hts : ∀ w ∈ k_wi y cc nL, w.before args s = true)
    (hcl : vwCl[ci]? = some (C, T, N)) (hin : ∀ w ∈ u_ws C T N, w ∈ k_ws) (hty : ∀ k, k < N → parseFieldDescriptor (T k).2.2.1 = some (ty0 k)) (hnm : ∀ a, a < N → ∀ b, b < N → a ≠ b → (T a).2.1 ≠ (T b).2.1)
    (hk : k < N) (hlk : Cond.fieldLink C idx C (T k).2.1 (T k).2.2.1 ∈ k_ws) (hT : (T k).1 = C) (hfin : (T k).2.2.2 = true) (hd : parseFieldDescriptor (T k).2.2.1 = some (.array ety)) (hlen : k < fs.length)
    (hac : Cond.arrayClass ety ∈ k_ws) (htn : (k_ty cA)[tn]? = some (cA cn, ety)) (ha : ∀ cA : ClassId, vp_cell cA a0 = arrV cA N' (fun _ => defaultValue ety)) (hn : ¬ n < 0) (hN : n.toNatClampNeg = N') (hby : N' * componentBytes ety ≤ 536870912) (hc : cells + 1 ≤ R.cells) (hs : slots + N' ≤ R.slots)
    (hK : va_K D vwCl (k_ty cA) s) (hP : va_P D vwCl ((h0, .inr (ci, fs)) :: wr) H) (hD : va_D A ((h0, .inr (ci, fs)) :: wr)) (hS : va_S A s.heap H locs) (hA : ∀ q, s.heap.size ≤ q → A q) (hl : ls[0]? = some (.val (.ref h0)))
    (d1 : decode cc pc = .ok (.aload_n 0, 1))
    (kc : W p l e R s m args below meth c H locs cells slots Q (F0 m (pc + 1 + w) ls (.int n :: [.ref h0])) → W p l e R s m args below meth c H locs cells slots Q (F0 m (pc + 1) ls [.ref h0]))
    (d3 : decode cc (pc + 1 + w) = .ok (.newarray atype, 2)) (d4 : decode cc (pc + 1 + w + 2) = .ok (.putfield idx, 3))
    (kk : ∀ (q : Nat) (H1 : Heap) (locs1 : List Loc), va_P D vwCl ((h0, .inr (ci, fs.set k (.ref q))) :: (wr ++ [(q, .inl (cA cn, a0))])) H1 → va_D A ((h0, .inr (ci, fs.set k (.ref q))) :: (wr ++ [(q, .inl (cA cn, a0))])) → va_S A s.heap H1 locs1 → W p l e R s m args below meth c H1 locs1 (cells + 1) (slots + N') Q (F0 m (pc + 1 + w + 5) ls [])) :
    W p l e R s m args below meth c H locs cells slots Q (F0 m pc ls []) := by
  have wd := fun w h => hts w (List.mem_cons_of_mem _ h)
  refine lv_aload_n hx hb d1 rfl hl (kc ?_)
  subst hty0
  refine va_newa (atype := atype) (N' := N') (a0 := a0) hx hb (wd _ hac) rfl hK hP hD hS hA ha hn hN hby hc hs d3 (fun q c1 H hK1 hP hD hS => ?_)
  have hc1 : c1 = cA cn := RA_1 (hK1.2 5 (c1, newarray.typeOf atype) rfl).2 (hK.2 tn _ htn).2
  subst hc1
  refine va_putF (ci := ci) (v := .ref q) (ty := .array (newarray.typeOf atype)) (C := C) (T := T) (N := N) hx hb hts (fun w h => List.mem_cons_of_mem _ (hin w h)) ty0 hty hnm hown hK hP hD hS 0 rfl hcl k hk (wd _ hlk) (fun x h9 => by rw [hT] at h9; exact h9) hfin hin2 hT hd rfl rfl hlen d4 (fun H locs hP hD hS => ?_)
  exact kk q H locs hP hD hS
