/-! rules over the cells -/
/-- own's pool entry idx names field k of class ci -/
def k_fl (own : String) (idx ci k : Nat) : Prop := ∃ (C : String) (T : u_T) (N : Nat), vwCl[ci]? = some (C, T, N) ∧ k < N ∧ (∀ w ∈ u_ws C T N, w ∈ k_ws) ∧ Cond.fieldLink own idx C (T k).2.1 (T k).2.2.1 ∈ k_ws ∧ (T k).1 = C
/-- and it is an int that may be written -/
def k_fp (own : String) (idx ci k : Nat) : Prop := ∃ (C : String) (T : u_T) (N : Nat) (ty0 : Nat → FieldType), vwCl[ci]? = some (C, T, N) ∧ k < N ∧ (∀ w ∈ u_ws C T N, w ∈ k_ws) ∧ Cond.fieldLink own idx C (T k).2.1 (T k).2.2.1 ∈ k_ws ∧ (T k).1 = C ∧ (∀ k, k < N → parseFieldDescriptor (T k).2.2.1 = some (ty0 k)) ∧ (∀ a, a < N → ∀ b, b < N → a ≠ b → (T a).2.1 ≠ (T b).2.1) ∧ (T k).2.2.2 = false ∧ parseFieldDescriptor (T k).2.2.1 = some .int
theorem k_fd_spec {S : kH} {a ci i : Nat} {o : Option Nat} (h1 : k_is S a 0 ci = true) (h2 : k_fd S a i = some o) : ∃ fs, S[a]? = some (0, ci, fs) ∧ fs[i]? = some o := by
  obtain ⟨fs, h⟩ := k_is_spec h1
  refine ⟨fs, h, ?_⟩
  simpa [k_fd, h] using h2
theorem x_getI {S : kH} {j : kM} {pc : Nat} {lv : List (Option Value)} {st : List Value} {σ : kS} {r : Option Value} {τ : kS} {idx ci i a : Nat} (d : decode j.2.1 pc = .ok (.getfield idx, 3)) (hf : k_fl j.1.cls idx ci i) (h1 : k_is S a 0 ci = true) (h2 : k_fd S a i = some none) (k : Ex S j (pc + 3) lv (.int (σ.1 a i) :: st) σ r τ) : Ex S j pc lv (.ref a :: st) σ r τ := by
  intro p l e s m args below meth c D cA ad H locs ls E hP hD hS hl
  obtain ⟨fs, h3, h4⟩ := k_fd_spec h1 h2
  obtain ⟨C, T, N, hc, hk, hin, hw, hT⟩ := hf
  exact va_get (D := D) (ci := ci) (v := .int (σ.1 a i)) (C := C) (T := T) (N := N) E.1 E.2.1 E.2.2.2.2.2.2.1 (fun w h => List.mem_cons_of_mem _ (hin w h)) E.2.2.2.2.2.1 E.2.2.2.2.2.2.2.1 hP a (k_wd_at h3) hc i hk (E.2.2.2.2.2.2.1 _ (List.mem_cons_of_mem _ hw)) (fun x hx => by rw [hT] at hx; exact hx) (by rw [List.getElem?_mapIdx, h4]; rfl) d (k p l e s m args below meth c D cA ad H locs ls E hP hD hS hl)
theorem x_getR {S : kH} {j : kM} {pc : Nat} {lv : List (Option Value)} {st : List Value} {σ : kS} {r : Option Value} {τ : kS} {idx ci i a q : Nat} (d : decode j.2.1 pc = .ok (.getfield idx, 3)) (hf : k_fl j.1.cls idx ci i) (h1 : k_is S a 0 ci = true) (h2 : k_fd S a i = some (some q)) (k : Ex S j (pc + 3) lv (.ref q :: st) σ r τ) : Ex S j pc lv (.ref a :: st) σ r τ := by
  intro p l e s m args below meth c D cA ad H locs ls E hP hD hS hl
  obtain ⟨fs, h3, h4⟩ := k_fd_spec h1 h2
  obtain ⟨C, T, N, hc, hk, hin, hw, hT⟩ := hf
  exact va_get (D := D) (ci := ci) (v := .ref (ad q)) (C := C) (T := T) (N := N) E.1 E.2.1 E.2.2.2.2.2.2.1 (fun w h => List.mem_cons_of_mem _ (hin w h)) E.2.2.2.2.2.1 E.2.2.2.2.2.2.2.1 hP a (k_wd_at h3) hc i hk (E.2.2.2.2.2.2.1 _ (List.mem_cons_of_mem _ hw)) (fun x hx => by rw [hT] at hx; exact hx) (by rw [List.getElem?_mapIdx, h4]; rfl) d (k p l e s m args below meth c D cA ad H locs ls E hP hD hS hl)
theorem x_putI {S : kH} {j : kM} {pc : Nat} {lv : List (Option Value)} {st : List Value} {σ : kS} {r : Option Value} {τ : kS} {idx ci i a : Nat} {v : Int32} (d : decode j.2.1 pc = .ok (.putfield idx, 3)) (hf : k_fp j.1.cls idx ci i) (h1 : k_is S a 0 ci = true) (h2 : k_fd S a i = some none) (k : Ex S j (pc + 3) lv st (k_si σ a i v) r τ) : Ex S j pc lv (.int v :: .ref a :: st) σ r τ := by
  intro p l e s m args below meth c D cA ad H locs ls E hP hD hS hl
  obtain ⟨fs, h3, h4⟩ := k_fd_spec h1 h2
  obtain ⟨C, T, N, ty0, hc, hk, hin, hw, hT, hty, hnm, hfin, hd⟩ := hf
  have hil : i < fs.length := (List.getElem?_eq_some_iff.mp h4).1
  have e1 : (k_wd S cA ad σ).set a (ad a, .inr (ci, (fs.mapIdx (k_fv ad (σ.1 a))).set i (.int v))) = k_wd S cA ad (k_si σ a i v) := by
    rw [k_fv_set (h' := (k_si σ a i v).1 a) h4 k_si_s]
    exact k_wd_set (τ := k_si σ a i v) h3 (fun b hb dd => k_cel_other (k_si_o hb) rfl dd)
  refine va_put (D := D) (ci := ci) (v := .int v) (ty := .int) (C := C) (T := T) (N := N) E.1 E.2.1 E.2.2.2.2.2.2.1 (fun w h => List.mem_cons_of_mem _ (hin w h)) ty0 hty hnm E.2.2.2.2.2.1 E.2.2.2.2.2.2.2.1 hP hD hS a (k_wd_at h3) hc i hk (E.2.2.2.2.2.2.1 _ (List.mem_cons_of_mem _ hw)) (fun x hx => by rw [hT] at hx; exact hx) hfin hd rfl rfl (by simpa using hil) d (fun H1 locs1 hP1 hD1 hS1 => ?_)
  rw [e1] at hP1 hD1
  exact k p l e s m args below meth c D cA ad H1 locs1 ls E hP1 hD1 hS1 hl
theorem x_iaload {S : kH} {j : kM} {pc : Nat} {lv : List (Option Value)} {st : List Value} {σ : kS} {r : Option Value} {τ : kS} {a n : Nat} {i : Int32} (d : decode j.2.1 pc = .ok (.iaload, 1)) (h1 : k_is S a 1 n = true) (hi : vp_in i n) (k : Ex S j (pc + 1) lv (.int (σ.1 a i.toNatClampNeg) :: st) σ r τ) : Ex S j pc lv (.int i :: .ref a :: st) σ r τ := by
  intro p l e s m args below meth c D cA ad H locs ls E hP hD hS hl
  obtain ⟨fs, h3⟩ := k_is_spec h1
  exact va_iald (n := n) (f := σ.1 a) E.1 E.2.1 E.2.2.2.2.2.2.2.1 hP a 0 (k_wd_at h3) rfl hi d (k p l e s m args below meth c D cA ad H locs ls E hP hD hS hl)
theorem x_laload {S : kH} {j : kM} {pc : Nat} {lv : List (Option Value)} {st : List Value} {σ : kS} {r : Option Value} {τ : kS} {a n : Nat} {i : Int32} (d : decode j.2.1 pc = .ok (.laload, 1)) (h1 : k_is S a 2 n = true) (hi : vp_in i n) (k : Ex S j (pc + 1) lv (.long (σ.2 a i.toNatClampNeg) :: st) σ r τ) : Ex S j pc lv (.int i :: .ref a :: st) σ r τ := by
  intro p l e s m args below meth c D cA ad H locs ls E hP hD hS hl
  obtain ⟨fs, h3⟩ := k_is_spec h1
  exact va_lald (n := n) (f := σ.2 a) E.1 E.2.1 E.2.2.2.2.2.2.2.1 hP a 1 (k_wd_at h3) rfl hi d (k p l e s m args below meth c D cA ad H locs ls E hP hD hS hl)
theorem x_baload {S : kH} {j : kM} {pc : Nat} {lv : List (Option Value)} {st : List Value} {σ : kS} {r : Option Value} {τ : kS} {a n : Nat} {i : Int32} (d : decode j.2.1 pc = .ok (.baload, 1)) (h1 : k_is S a 3 n = true) (hi : vp_in i n) (k : Ex S j (pc + 1) lv (.int (σ.1 a i.toNatClampNeg) :: st) σ r τ) : Ex S j pc lv (.int i :: .ref a :: st) σ r τ := by
  intro p l e s m args below meth c D cA ad H locs ls E hP hD hS hl
  obtain ⟨fs, h3⟩ := k_is_spec h1
  exact va_zald (n := n) (f := σ.1 a) E.1 E.2.1 E.2.2.2.2.2.2.2.1 hP a 2 (k_wd_at h3) rfl hi d (k p l e s m args below meth c D cA ad H locs ls E hP hD hS hl)
theorem x_iastore {S : kH} {j : kM} {pc : Nat} {lv : List (Option Value)} {st : List Value} {σ : kS} {r : Option Value} {τ : kS} {a n : Nat} {i v : Int32} (d : decode j.2.1 pc = .ok (.iastore, 1)) (h1 : k_is S a 1 n = true) (hi : vp_in i n) (k : Ex S j (pc + 1) lv st (k_si σ a i.toNatClampNeg v) r τ) : Ex S j pc lv (.int v :: .int i :: .ref a :: st) σ r τ := by
  intro p l e s m args below meth c D cA ad H locs ls E hP hD hS hl
  obtain ⟨fs, h3⟩ := k_is_spec h1
  have e1 : (k_wd S cA ad σ).set a (ad a, .inl (cA 1, n, .inl (upd (σ.1 a) i.toNatClampNeg v))) = k_wd S cA ad (k_si σ a i.toNatClampNeg v) := by
    rw [← k_si_s]
    exact k_wd_set (τ := k_si σ a i.toNatClampNeg v) h3 (fun b hb dd => k_cel_other (k_si_o hb) rfl dd)
  refine va_iast (n := n) (f := σ.1 a) (x := v) E.1 E.2.1 E.2.2.2.2.2.2.2.1 hP hD hS a 0 (k_wd_at h3) rfl hi d (fun H1 locs1 hP1 hD1 hS1 => ?_)
  rw [e1] at hP1 hD1
  exact k p l e s m args below meth c D cA ad H1 locs1 ls E hP1 hD1 hS1 hl
theorem x_bastore {S : kH} {j : kM} {pc : Nat} {lv : List (Option Value)} {st : List Value} {σ : kS} {r : Option Value} {τ : kS} {a n : Nat} {i v : Int32} (d : decode j.2.1 pc = .ok (.bastore, 1)) (h1 : k_is S a 3 n = true) (hi : vp_in i n) (k : Ex S j (pc + 1) lv st (k_si σ a i.toNatClampNeg (vp_nar .boolean v)) r τ) : Ex S j pc lv (.int v :: .int i :: .ref a :: st) σ r τ := by
  intro p l e s m args below meth c D cA ad H locs ls E hP hD hS hl
  obtain ⟨fs, h3⟩ := k_is_spec h1
  have e1 : (k_wd S cA ad σ).set a (ad a, .inl (cA 3, n, .inl (upd (σ.1 a) i.toNatClampNeg (vp_nar .boolean v)))) = k_wd S cA ad (k_si σ a i.toNatClampNeg (vp_nar .boolean v)) := by
    rw [← k_si_s]
    exact k_wd_set (τ := k_si σ a i.toNatClampNeg (vp_nar .boolean v)) h3 (fun b hb dd => k_cel_other (k_si_o hb) rfl dd)
  refine va_zast (n := n) (f := σ.1 a) (x := v) E.1 E.2.1 E.2.2.2.2.2.2.2.1 hP hD hS a 2 (k_wd_at h3) rfl hi d (fun H1 locs1 hP1 hD1 hS1 => ?_)
  rw [e1] at hP1 hD1
  exact k p l e s m args below meth c D cA ad H1 locs1 ls E hP1 hD1 hS1 hl
theorem x_lastore {S : kH} {j : kM} {pc : Nat} {lv : List (Option Value)} {st : List Value} {σ : kS} {r : Option Value} {τ : kS} {a n : Nat} {i : Int32} {v : Int64} (d : decode j.2.1 pc = .ok (.lastore, 1)) (h1 : k_is S a 2 n = true) (hi : vp_in i n) (k : Ex S j (pc + 1) lv st (k_sl σ a i.toNatClampNeg v) r τ) : Ex S j pc lv (.long v :: .int i :: .ref a :: st) σ r τ := by
  intro p l e s m args below meth c D cA ad H locs ls E hP hD hS hl
  obtain ⟨fs, h3⟩ := k_is_spec h1
  have e1 : (k_wd S cA ad σ).set a (ad a, .inl (cA 2, n, .inr (.inl (vp_updL (σ.2 a) i.toNatClampNeg v)))) = k_wd S cA ad (k_sl σ a i.toNatClampNeg v) := by
    rw [← k_sl_s]
    exact k_wd_set (τ := k_sl σ a i.toNatClampNeg v) h3 (fun b hb dd => k_cel_other (τ := k_sl σ a i.toNatClampNeg v) (σ := σ) rfl (k_sl_o hb) dd)
  refine va_last (n := n) (f := σ.2 a) (x := v) E.1 E.2.1 E.2.2.2.2.2.2.2.1 hP hD hS a 1 (k_wd_at h3) rfl hi d (fun H1 locs1 hP1 hD1 hS1 => ?_)
  rw [e1] at hP1 hD1
  exact k p l e s m args below meth c D cA ad H1 locs1 ls E hP1 hD1 hS1 hl
/-- a row of references (Valley: 4, Sheet: 5) -/
theorem x_aaload4 {S : kH} {j : kM} {pc : Nat} {lv : List (Option Value)} {st : List Value} {σ : kS} {r : Option Value} {τ : kS} {a n q : Nat} {i : Int32} (d : decode j.2.1 pc = .ok (.aaload, 1)) (h1 : k_is S a 4 n = true) (hi : vp_in i n) (h2 : k_fd S a i.toNatClampNeg = some (some q)) (k : Ex S j (pc + 1) lv (.ref q :: st) σ r τ) : Ex S j pc lv (.int i :: .ref a :: st) σ r τ := by
  intro p l e s m args below meth c D cA ad H locs ls E hP hD hS hl
  obtain ⟨fs, h3⟩ := k_is_spec h1
  have h4 : fs[i.toNatClampNeg]? = some (some q) := by simpa [k_fd, h3] using h2
  refine va_aldq (n := n) (f := fun i => (fs.getD i none).map ad) (C := RX7) E.1 E.2.1 E.2.2.2.2.2.2.2.1 hP a 3 (k_wd_at h3) rfl hi d ?_
  have e1 : va_rf ((fs.getD i.toNatClampNeg none).map ad) = .ref (ad q) := by rw [List.getD_eq_getElem?_getD, h4]; rfl
  rw [e1]
  exact k p l e s m args below meth c D cA ad H locs ls E hP hD hS hl
theorem x_aaload5 {S : kH} {j : kM} {pc : Nat} {lv : List (Option Value)} {st : List Value} {σ : kS} {r : Option Value} {τ : kS} {a n q : Nat} {i : Int32} (d : decode j.2.1 pc = .ok (.aaload, 1)) (h1 : k_is S a 5 n = true) (hi : vp_in i n) (h2 : k_fd S a i.toNatClampNeg = some (some q)) (k : Ex S j (pc + 1) lv (.ref q :: st) σ r τ) : Ex S j pc lv (.int i :: .ref a :: st) σ r τ := by
  intro p l e s m args below meth c D cA ad H locs ls E hP hD hS hl
  obtain ⟨fs, h3⟩ := k_is_spec h1
  have h4 : fs[i.toNatClampNeg]? = some (some q) := by simpa [k_fd, h3] using h2
  refine va_aldq (n := n) (f := fun i => (fs.getD i none).map ad) (C := RX4) E.1 E.2.1 E.2.2.2.2.2.2.2.1 hP a 4 (k_wd_at h3) rfl hi d ?_
  have e1 : va_rf ((fs.getD i.toNatClampNeg none).map ad) = .ref (ad q) := by rw [List.getD_eq_getElem?_getD, h4]; rfl
  rw [e1]
  exact k p l e s m args below meth c D cA ad H locs ls E hP hD hS hl
theorem x_ilen {S : kH} {j : kM} {pc : Nat} {lv : List (Option Value)} {st : List Value} {σ : kS} {r : Option Value} {τ : kS} {a n : Nat} (d : decode j.2.1 pc = .ok (.arraylength, 1)) (h1 : k_is S a 1 n = true) (k : Ex S j (pc + 1) lv (.int (nI n) :: st) σ r τ) : Ex S j pc lv (.ref a :: st) σ r τ := by
  intro p l e s m args below meth c D cA ad H locs ls E hP hD hS hl
  obtain ⟨fs, h3⟩ := k_is_spec h1
  exact va_alen (x := (n, .inl (σ.1 a))) E.1 E.2.1 E.2.2.2.2.2.2.2.1 hP a 0 (k_wd_at h3) rfl rfl d (k p l e s m args below meth c D cA ad H locs ls E hP hD hS hl)
theorem x_llen {S : kH} {j : kM} {pc : Nat} {lv : List (Option Value)} {st : List Value} {σ : kS} {r : Option Value} {τ : kS} {a n : Nat} (d : decode j.2.1 pc = .ok (.arraylength, 1)) (h1 : k_is S a 2 n = true) (k : Ex S j (pc + 1) lv (.int (nI n) :: st) σ r τ) : Ex S j pc lv (.ref a :: st) σ r τ := by
  intro p l e s m args below meth c D cA ad H locs ls E hP hD hS hl
  obtain ⟨fs, h3⟩ := k_is_spec h1
  exact va_alen (x := (n, .inr (.inl (σ.2 a)))) E.1 E.2.1 E.2.2.2.2.2.2.2.1 hP a 1 (k_wd_at h3) rfl rfl d (k p l e s m args below meth c D cA ad H locs ls E hP hD hS hl)
/-! static rows that nobody writes -/
theorem x_getS {S : kH} {j : kM} {pc : Nat} {lv : List (Option Value)} {st : List Value} {σ : kS} {r : Option Value} {τ : kS} {idx id N : Nat} {C n ds : String} {f : Nat → Int32} (d : decode j.2.1 pc = .ok (.getstatic idx, 3)) (hq : (id, C, n, ds, N, f) ∈ k_sts) (hw : Cond.fieldLink j.1.cls idx C n ds ∈ k_ws) (k : Ex S j (pc + 3) lv (.ref id :: st) σ r τ) : Ex S j pc lv st σ r τ := by
  intro p l e s m args below meth c D cA ad H locs ls E hP hD hS hl
  exact va_gets E.1 E.2.1 (E.2.2.2.2.2.2.2.2.2 _ hq).1 hS E.2.2.2.2.2.1 (E.2.2.2.2.2.2.1 _ (List.mem_cons_of_mem _ hw)) (fun x hx => hx) d (k p l e s m args below meth c D cA ad H locs ls E hP hD hS hl)
theorem x_getSN {S : kH} {j : kM} {pc : Nat} {lv : List (Option Value)} {st : List Value} {σ : kS} {r : Option Value} {τ : kS} {idx id N : Nat} {C n ds host : String} {f : Nat → Int32} (d : decode j.2.1 pc = .ok (.getstatic idx, 3)) (hq : (id, C, n, ds, N, f) ∈ k_sts) (hw : (j.1.cls, idx, C, n, ds, host) ∈ k_nwF) (k : Ex S j (pc + 3) lv (.ref id :: st) σ r τ) : Ex S j pc lv st σ r τ := by
  intro p l e s m args below meth c D cA ad H locs ls E hP hD hS hl
  exact va_getsN E.1 E.2.1 (E.2.2.2.2.2.2.2.2.2 _ hq).1 hS E.2.2.2.2.2.1 (va_Nw.use rfl (E.2.2.2.2.2.2.2.2.1.2 _ hw)) (fun x hx => hx) d (k p l e s m args below meth c D cA ad H locs ls E hP hD hS hl)
theorem x_ialoadS {S : kH} {j : kM} {pc : Nat} {lv : List (Option Value)} {st : List Value} {σ : kS} {r : Option Value} {τ : kS} {id N : Nat} {C n ds : String} {f : Nat → Int32} {i : Int32} (d : decode j.2.1 pc = .ok (.iaload, 1)) (hq : (id, C, n, ds, N, f) ∈ k_sts) (hi : vp_in i N) (k : Ex S j (pc + 1) lv (.int (f i.toNatClampNeg) :: st) σ r τ) : Ex S j pc lv (.int i :: .ref id :: st) σ r τ := by
  intro p l e s m args below meth c D cA ad H locs ls E hP hD hS hl
  exact va_ti E.1 E.2.1 (E.2.2.2.2.2.2.2.2.2 _ hq).2 hS hi rfl d (k p l e s m args below meth c D cA ad H locs ls E hP hD hS hl)
/-! System.arraycopy -/
def k_ac (own : String) (idx : Nat) : Prop := Cond.methodLink own idx arraycopyName ∈ k_ws ∧ Cond.native arraycopyName ∈ k_ws ∧ Cond.static arraycopyName ∈ k_ws ∧ Cond.initialized "java/lang/System" ∈ k_ws
def k_cat (st : List Value) : Nat := (st.map fun v => v.category).sum
theorem k_cat_cv (ad : Nat → Nat) (st : List Value) : ((st.map (k_cv ad)).map fun v => v.category).sum = k_cat st := by
  unfold k_cat
  rw [List.map_map]
  congr 1
  exact List.map_congr_left (fun v _ => k_cv_cat ad v)
theorem x_copyi {S : kH} {j : kM} {pc : Nat} {lv : List (Option Value)} {st : List Value} {σ : kS} {r : Option Value} {τ : kS} {idx a0 a1 n0 n1 : Nat} {sp dp n : Int32} (d : decode j.2.1 pc = .ok (.invokestatic idx, 3)) (hw : k_ac j.1.cls idx) (h0 : k_is S a0 1 n0 = true) (h1 : k_is S a1 1 n1 = true)
    (h2 : ¬ sp < 0 ∧ ¬ dp < 0 ∧ ¬ n < 0 ∧ sp.toNatClampNeg + n.toNatClampNeg ≤ n0 ∧ dp.toNatClampNeg + n.toNatClampNeg ≤ n1) (hR : 1 ≤ j.2.2.2.2.1 ∧ k_cat st + (nativeFrameWords "java/lang/System" "arraycopy" 5 + 11) ≤ j.2.2.2.2.2)
    (k : Ex S j (pc + 3) lv st (k_cp σ a0 a1 sp.toNatClampNeg dp.toNatClampNeg n.toNatClampNeg) r τ) : Ex S j pc lv (.int n :: .int dp :: .ref a1 :: .int sp :: .ref a0 :: st) σ r τ := by
  intro p l e s m args below meth c D cA ad H locs ls E hP hD hS hl
  obtain ⟨fs0, h3⟩ := k_is_spec h0
  obtain ⟨fs1, h4⟩ := k_is_spec h1
  have wd := fun w h => E.2.2.2.2.2.2.1 w (List.mem_cons_of_mem _ h)
  have e1 : (k_wd S cA ad σ).set a1 (ad a1, .inl (cA 1, n1, .inl (va_cpy (σ.1 a0) (σ.1 a1) sp.toNatClampNeg dp.toNatClampNeg n.toNatClampNeg))) = k_wd S cA ad (k_cp σ a0 a1 sp.toNatClampNeg dp.toNatClampNeg n.toNatClampNeg) := by
    rw [← k_cp_s]
    exact k_wd_set (τ := k_cp σ a0 a1 _ _ _) h4 (fun b hb dd => k_cel_other (k_cp_o hb) rfl dd)
  refine va_copyi (ty := .int) E.1 E.2.1 (E.2.2.1.trans hl.1.symm) E.2.2.2.2.2.1 (wd _ hw.1) (wd _ hw.2.1) (wd _ hw.2.2.1) (wd _ hw.2.2.2) E.2.2.2.2.2.2.2.1 hP hD hS a0 a1 0 0 (k_wd_at h3) (k_wd_at h4) rfl rfl rfl h2.1 h2.2.1 h2.2.2.1 h2.2.2.2.1 h2.2.2.2.2 (fun _ _ => rfl) hR.1 (by rw [k_cat_cv]; exact hR.2) d (fun H1 locs1 hP1 hD1 hS1 => ?_)
  rw [e1] at hP1 hD1
  exact k p l e s m args below meth c D cA ad H1 locs1 ls E hP1 hD1 hS1 hl
theorem x_copyl {S : kH} {j : kM} {pc : Nat} {lv : List (Option Value)} {st : List Value} {σ : kS} {r : Option Value} {τ : kS} {idx a0 a1 n0 n1 : Nat} {sp dp n : Int32} (d : decode j.2.1 pc = .ok (.invokestatic idx, 3)) (hw : k_ac j.1.cls idx) (h0 : k_is S a0 2 n0 = true) (h1 : k_is S a1 2 n1 = true)
    (h2 : ¬ sp < 0 ∧ ¬ dp < 0 ∧ ¬ n < 0 ∧ sp.toNatClampNeg + n.toNatClampNeg ≤ n0 ∧ dp.toNatClampNeg + n.toNatClampNeg ≤ n1) (hR : 1 ≤ j.2.2.2.2.1 ∧ k_cat st + (nativeFrameWords "java/lang/System" "arraycopy" 5 + 11) ≤ j.2.2.2.2.2)
    (k : Ex S j (pc + 3) lv st (k_cl σ a0 a1 sp.toNatClampNeg dp.toNatClampNeg n.toNatClampNeg) r τ) : Ex S j pc lv (.int n :: .int dp :: .ref a1 :: .int sp :: .ref a0 :: st) σ r τ := by
  intro p l e s m args below meth c D cA ad H locs ls E hP hD hS hl
  obtain ⟨fs0, h3⟩ := k_is_spec h0
  obtain ⟨fs1, h4⟩ := k_is_spec h1
  have wd := fun w h => E.2.2.2.2.2.2.1 w (List.mem_cons_of_mem _ h)
  have e1 : (k_wd S cA ad σ).set a1 (ad a1, .inl (cA 2, n1, .inr (.inl (va_cpy (σ.2 a0) (σ.2 a1) sp.toNatClampNeg dp.toNatClampNeg n.toNatClampNeg)))) = k_wd S cA ad (k_cl σ a0 a1 sp.toNatClampNeg dp.toNatClampNeg n.toNatClampNeg) := by
    rw [← k_cl_s]
    exact k_wd_set (τ := k_cl σ a0 a1 _ _ _) h4 (fun b hb dd => k_cel_other (τ := k_cl σ a0 a1 sp.toNatClampNeg dp.toNatClampNeg n.toNatClampNeg) (σ := σ) rfl (k_cl_o hb) dd)
  refine va_copyl (ty := .long) E.1 E.2.1 (E.2.2.1.trans hl.1.symm) E.2.2.2.2.2.1 (wd _ hw.1) (wd _ hw.2.1) (wd _ hw.2.2.1) (wd _ hw.2.2.2) E.2.2.2.2.2.2.2.1 hP hD hS a0 a1 1 1 (k_wd_at h3) (k_wd_at h4) rfl rfl rfl h2.1 h2.2.1 h2.2.2.1 h2.2.2.2.1 h2.2.2.2.2 (fun _ _ => rfl) hR.1 (by rw [k_cat_cv]; exact hR.2) d (fun H1 locs1 hP1 hD1 hS1 => ?_)
  rw [e1] at hP1 hD1
  exact k p l e s m args below meth c D cA ad H1 locs1 ls E hP1 hD1 hS1 hl
/-! calls -/
theorem k_ws_good : ∀ w ∈ k_ws, goodWord w = true := fun _ h => (List.mem_filter.mp h).2
theorem k_A_narrow {ad : Nat → Nat} {n a b : Nat} (h : a ≤ b) : ∀ q, k_A ad n b q → k_A ad n a q := fun _ h2 => h2.elim Or.inl (fun h3 => Or.inr (Nat.le_trans h h3))
theorem k_nw_same {u U : State} (h : u.vm = U.vm) (hZ : k_nw u) : k_nw U := ⟨fun q hq => va_Nw.same rfl h (hZ.1 q hq), fun q hq => va_Nw.same rfl h (hZ.2 q hq)⟩
theorem k_nw_warm {s U : State} (h : s.WarmedH U.vm) (hZ : k_nw s) : k_nw U := ⟨fun q hq => va_Nw.warmM h (hZ.1 q hq), fun q hq => va_Nw.warmF h (hZ.2 q hq)⟩
theorem k_blind {S : kH} {D : va_G} {cA : Nat → ClassId} {ad : Nat → Nat} {sz : Nat} {σ : kS} {av : List Value} : FrameBlind (va_Pc av (fun U => U.heap.size = sz ∧ k_G S D cA ad sz σ U)) := by
  intro a U g mk q
  obtain ⟨q0, q1, qP, qK, qD, qN, qS⟩ := q
  exact ⟨q0, q1, qP, va_K.moved (u := U) (U := U.calling g mk a) (Vm.Alike.refl U.vm) qK, qD, k_nw_same (u := U) (U := U.calling g mk a) rfl qN, fun x hx => ⟨(qS x hx).1.moved (u := U) (U := U.calling g mk a) (Vm.Alike.refl U.vm), (qS x hx).2.moved (u := U) (U := U.calling g mk a) (Vm.Alike.refl U.vm)⟩⟩
/-- what a caller's frame gives the callee -/
theorem k_gives {S : kH} {j : kM} {p : Program} {s : State} {m : MethodId} {args : Array Value} {meth : Method} {c : Code} {D : va_G} {cA : Nat → ClassId} {ad : Nat → Nat} {σ : kS} {H : Heap} {locs : List Loc} (E : k_ev S j p s m args meth c D cA ad) (hP : va_P D vwCl (k_wd S cA ad σ) H) (hD : va_D (k_A ad S.length s.heap.size) (k_wd S cA ad σ)) (hS : va_S (k_A ad S.length s.heap.size) s.heap H locs) (U : State) (hU : U.heap = H) (hW : s.WarmedH U.vm) : U.heap.size = H.size ∧ k_G S D cA ad H.size σ U := by
  refine ⟨by rw [hU], by rw [hU]; exact hP, va_K.moved hW.alike E.2.2.2.2.2.2.2.1, k_DA hD (fun k hk => Or.inl ⟨k, hk, rfl⟩), k_nw_warm hW E.2.2.2.2.2.2.2.2.1, fun q hq => ?_⟩
  obtain ⟨h1, h2⟩ := E.2.2.2.2.2.2.2.2.2 q hq
  rw [hU]
  exact ⟨((h1.moved hW.alike).kept (fun a ha hA => hS.2.1 a ha hA)).narrow (k_A_narrow hS.1), ((h2.moved hW.alike).kept (fun a ha hA => hS.2.1 a ha hA)).narrow (k_A_narrow hS.1)⟩
theorem k_back {S : kH} {j : kM} {pc : Nat} {lv : List (Option Value)} {rest : List Value} {σ υ : kS} {r r1 : Option Value} {τ : kS} (k : Ex S j (pc + 3) lv (r1.toList ++ rest) υ r τ) {p : Program} {l : Launch} {e : Env} {s : State} {m : MethodId} {args : Array Value} {below : List Frame} {meth : Method} {c : Code} {D : va_G} {cA : Nat → ClassId} {ad : Nat → Nat} {H : Heap} {locs : List Loc} {ls : Array Slot} {st0 : List Value} {a : Array Value}
    (E : k_ev S j p s m args meth c D cA ad) (hD : va_D (k_A ad S.length s.heap.size) (k_wd S cA ad σ)) (hS : va_S (k_A ad S.length s.heap.size) s.heap H locs) (hl : k_lh ad ls j.2.2.1 lv)
    (hr : va_Run p l e (k_rm j) s m args below meth c H locs 0 0 0 0 (F0 m pc ls st0) (rest.map (k_cv ad)) (k_Q S D cA ad r1 υ a) (k_A ad S.length H.size)) :
    W p l e (k_rm j) s m args below meth c H locs 0 0 (MQ below (k_Q S D cA ad r τ) args s 0 0 (k_A ad S.length s.heap.size)) (F0 m pc ls st0) := by
  intro T hT X
  obtain ⟨v, st₀, t, T', L, h0, X', hL, e1, e2, ⟨⟨hv, hp⟩, hz, hk⟩, st⟩ := hr T hT X
  cases hv
  rw [h0] at hz hk
  have hs1 : va_S (k_A ad S.length s.heap.size) s.heap T'.heap (locs ++ L) := ⟨Nat.le_trans hS.1 (by rw [e1]; exact hz), fun q h1 h2 => by rw [e1, hk q (Nat.lt_of_lt_of_le h1 hS.1) (fun z => h2 (k_A_narrow hS.1 q z))]; exact hS.2.1 q h1 h2, fun q hq => by
    rcases List.mem_append.mp hq with h | h
    · exact hS.2.2 q h
    · exact k_A_narrow hS.1 _ (hL q h)⟩
  obtain ⟨t2, a1, b1⟩ := k p l e s m args below meth c D cA ad T'.heap (locs ++ L) ls E (by rw [e1]; exact hp) (k_DA hD (fun k hk => Or.inl ⟨k, hk, rfl⟩)) hs1 hl T' rfl X'
  refine ⟨t2, st t2 ?_, b1⟩
  have e3 : (r1.toList ++ rest).map (k_cv ad) = (r1.map (k_cv ad)).toList ++ rest.map (k_cv ad) := by cases r1 <;> simp
  rw [e3] at a1
  exact a1
/-- a callee h of j: its words, its room -/
def k_fit (j h : kM) (n : Nat) : Prop := Cond.code h.1 h.2.1 h.2.2.1 h.2.2.2.1 ∈ k_ws ∧ Cond.initialized h.1.cls ∈ k_ws ∧ (h.1.cls ≠ "java/lang/invoke/MethodHandle" ∧ h.1.cls ≠ "java/lang/invoke/VarHandle" ∧ (parseMethodDescriptor h.1.desc).map (fun d => d.parameters.length) = some n) ∧ (h.2.2.2.2.1 + 1 ≤ j.2.2.2.2.1 ∧ 8 + (h.2.2.1 + 11) + h.2.2.2.2.2 ≤ j.2.2.2.2.2)
theorem k_good {j h : kM} (hc : Cond.code h.1 h.2.1 h.2.2.1 h.2.2.2.1 ∈ k_ws) : GoodIn (Cond.code j.1 j.2.1 j.2.2.1 j.2.2.2.1 :: k_ws) (Cond.code h.1 h.2.1 h.2.2.1 h.2.2.2.1 :: k_ws) := by
  intro w hw
  rcases List.mem_cons.mp hw with e | h2
  · subst e
    exact ⟨List.mem_cons_of_mem _ hc, good_of_word (k_ws_good _ hc)⟩
  · exact ⟨List.mem_cons_of_mem _ h2, good_of_word (k_ws_good _ h2)⟩
def k_cl_v (j : kM) (idx : Nat) (h : kM) (n : Nat) : Prop := k_fit j h n ∧ Cond.methodLink j.1.cls idx h.1 ∈ k_ws ∧ Cond.instanceMethod h.1 ∈ k_ws ∧ Cond.selects h.1.cls h.1 h.1 ∈ k_ws
def k_cl_s' (j : kM) (idx : Nat) (h : kM) (n : Nat) : Prop := k_fit j h n ∧ Cond.methodLink j.1.cls idx h.1 ∈ k_ws ∧ Cond.static h.1 ∈ k_ws
def k_cl_n (j : kM) (idx : Nat) (h : kM) (n : Nat) : Prop := k_fit j h n ∧ (∃ host, (j.1.cls, idx, h.1, host) ∈ k_nwM) ∧ Cond.static h.1 ∈ k_ws
theorem x_callV {S : kH} {j : kM} {pc : Nat} {lv : List (Option Value)} {st : List Value} {σ υ : kS} {r r1 : Option Value} {τ : kS} {idx n b ci : Nat} {h : kM} {T : u_T} {N : Nat} (As rest : List Value) (d : decode j.2.1 pc = .ok (.invokevirtual idx, 3)) (hw : k_cl_v j idx h n) (hcl : vwCl[ci]? = some (h.1.cls, T, N)) (hb : k_is S b 0 ci = true) (hst : st = As.reverse ++ .ref b :: rest) (hn : As.length = n) (hc : k_cat rest ≤ 8)
    (hM : Run S h (.ref b :: As) σ r1 υ) (k : Ex S j (pc + 3) lv (r1.toList ++ rest) υ r τ) : Ex S j pc lv st σ r τ := by
  intro p l e s m args below meth c D cA ad H locs ls E hP hD hS hl
  obtain ⟨⟨w1, w2, w3, w4⟩, w5, w6, w7⟩ := hw
  have wd := fun w h => E.2.2.2.2.2.2.1 w (List.mem_cons_of_mem _ h)
  obtain ⟨fs, h3⟩ := k_is_spec hb
  refine k_back (rest := rest) (a := (Value.ref (ad b) :: As.map (k_cv ad)).toArray) k E hD hS hl ?_
  refine va_runV (C := h.1.cls) (As := As.map (k_cv ad)) (nL := j.2.2.1) (Ts := Cond.code j.1 j.2.1 j.2.2.1 j.2.2.2.1 :: k_ws) ⟨E.1, E.2.1, E.2.2.1, E.2.2.2.2.2.1, E.2.2.2.2.2.2.1⟩ (hM l D cA ad H.size) ⟨callB_of n E.2.2.2.2.2.2.1 (k_good w1) rfl rfl rfl (wd _ w2) (wd _ w5) w3 w4, wd _ w6, wd _ w7⟩ ⟨k_blind, va_recv E.2.2.2.2.2.2.2.1 hP hcl (k_wd_at h3), fun U hU hW => ⟨rfl, k_gives E hP hD hS U hU hW⟩⟩ rfl (by simpa using hn) hl.1 ?_ (lv_room (by rw [k_cat_cv]; exact hc)) d ⟨Nat.le_refl _, Nat.le_refl _⟩
  show st.map (k_cv ad) = _
  rw [hst, List.map_append, List.map_reverse]
  rfl
theorem x_callS {S : kH} {j : kM} {pc : Nat} {lv : List (Option Value)} {st : List Value} {σ υ : kS} {r r1 : Option Value} {τ : kS} {idx n : Nat} {h : kM} (As rest : List Value) (d : decode j.2.1 pc = .ok (.invokestatic idx, 3)) (hw : k_cl_s' j idx h n) (hst : st = As.reverse ++ rest) (hn : As.length = n) (hc : k_cat rest ≤ 8)
    (hM : Run S h As σ r1 υ) (k : Ex S j (pc + 3) lv (r1.toList ++ rest) υ r τ) : Ex S j pc lv st σ r τ := by
  intro p l e s m args below meth c D cA ad H locs ls E hP hD hS hl
  obtain ⟨⟨w1, w2, w3, w4⟩, w5, w6⟩ := hw
  have wd := fun w h => E.2.2.2.2.2.2.1 w (List.mem_cons_of_mem _ h)
  refine k_back (rest := rest) (a := (As.map (k_cv ad)).toArray) k E hD hS hl ?_
  refine va_runS (As := As.map (k_cv ad)) (nL := j.2.2.1) (Ts := Cond.code j.1 j.2.1 j.2.2.1 j.2.2.2.1 :: k_ws) ⟨E.1, E.2.1, E.2.2.1, E.2.2.2.2.2.1, E.2.2.2.2.2.2.1⟩ (hM l D cA ad H.size) ⟨callB_of n E.2.2.2.2.2.2.1 (k_good w1) rfl rfl rfl (wd _ w2) (wd _ w5) w3 w4, wd _ w6⟩ ⟨k_blind, fun U hU hW => ⟨rfl, k_gives E hP hD hS U hU hW⟩⟩ rfl (by simpa using hn) hl.1 ?_ (lv_room (by rw [k_cat_cv]; exact hc)) d ⟨Nat.le_refl _, Nat.le_refl _⟩
  show st.map (k_cv ad) = _
  rw [hst, List.map_append, List.map_reverse]
theorem x_callN {S : kH} {j : kM} {pc : Nat} {lv : List (Option Value)} {st : List Value} {σ υ : kS} {r r1 : Option Value} {τ : kS} {idx n : Nat} {h : kM} (As rest : List Value) (d : decode j.2.1 pc = .ok (.invokestatic idx, 3)) (hw : k_cl_n j idx h n) (hst : st = As.reverse ++ rest) (hn : As.length = n) (hc : k_cat rest ≤ 8)
    (hM : Run S h As σ r1 υ) (k : Ex S j (pc + 3) lv (r1.toList ++ rest) υ r τ) : Ex S j pc lv st σ r τ := by
  intro p l e s m args below meth c D cA ad H locs ls E hP hD hS hl
  obtain ⟨⟨w1, w2, w3, w4⟩, ⟨host, w5⟩, w6⟩ := hw
  have wd := fun w h => E.2.2.2.2.2.2.1 w (List.mem_cons_of_mem _ h)
  refine k_back (rest := rest) (a := (As.map (k_cv ad)).toArray) k E hD hS hl ?_
  refine va_runSN (host := host) (As := As.map (k_cv ad)) (nL := j.2.2.1) (Ts := Cond.code j.1 j.2.1 j.2.2.1 j.2.2.2.1 :: k_ws) ⟨E.1, E.2.1, E.2.2.1, E.2.2.2.2.2.1, E.2.2.2.2.2.2.1⟩ (hM l D cA ad H.size) ⟨va_cnB n E.2.2.2.2.2.2.1 (k_good w1) rfl rfl rfl (E.2.2.2.2.2.2.2.2.1.1 _ w5) (wd _ w2) w3 w4, wd _ w6, trivial⟩ ⟨k_blind, fun U hU hW => ⟨rfl, k_gives E hP hD hS U hU hW⟩⟩ rfl (by simpa using hn) hl.1 ?_ (lv_room (by rw [k_cat_cv]; exact hc)) d ⟨Nat.le_refl _, Nat.le_refl _⟩
  show st.map (k_cv ad) = _
  rw [hst, List.map_append, List.map_reverse]
/-! a method, from its entry -/
def k_la (n : Nat) (av : List Value) : List (Option Value) := match av with
  | [] => List.replicate n none
  | v :: vs => if v.category = 2 then some v :: none :: k_la (n - 2) vs else some v :: k_la (n - 1) vs
theorem k_la_mem {ad : Nat → Nat} : ∀ (av : List Value) (n b i : Nat) (v : Value), (k_la n av)[i]? = some (some v) → (b + i, k_cv ad v) ∈ lv_args b (av.map (k_cv ad)) := by
  intro av
  induction av with
  | nil =>
    intro n b i v h
    simp only [k_la, List.getElem?_replicate] at h
    split at h <;> simp at h
  | cons w vs ih =>
    intro n b i v h
    rw [k_la] at h
    simp only [List.map_cons, lv_args, k_cv_cat]
    by_cases hc : w.category = 2
    · rw [if_pos hc] at h ⊢
      match i, h with
      | 0, h => simp at h; subst h; exact List.mem_cons_self
      | 1, h => simp at h
      | i + 2, h =>
        simp only [List.getElem?_cons_succ] at h
        have := ih (n - 2) (b + 2) i v h
        rw [show b + (i + 2) = b + 2 + i by omega]
        exact List.mem_cons_of_mem _ this
    · rw [if_neg hc] at h ⊢
      match i, h with
      | 0, h => simp at h; subst h; exact List.mem_cons_self
      | i + 1, h =>
        simp only [List.getElem?_cons_succ] at h
        have := ih (n - 1) (b + 1) i v h
        rw [show b + (i + 1) = b + 1 + i by omega]
        exact List.mem_cons_of_mem _ this
theorem x_run {S : kH} {j : kM} {av : List Value} {σ : kS} {r : Option Value} {τ : kS} (lv : List (Option Value)) (hy : plainFor j.1 = true) (hlv : k_la j.2.2.1 av = lv) (hn : k_cat av ≤ j.2.2.1) (k : Ex S j 0 lv [] σ r τ) : Run S j av σ r τ := by
  intro l D cA ad sz
  refine va_MetF (cc := j.2.1) (maxL := j.2.2.1) (ret := j.2.2.2.1) hy rfl ?_
  intro p e s m args below meth c s₁ B hml hv
  obtain ⟨rfl, hsz, hP, hK, hD, hN, hT⟩ := hv
  subst hsz
  have hsl : ∀ vs : List Value, (lg_sl vs).length = k_cat vs := by
    intro vs
    induction vs with
    | nil => rfl
    | cons v vs ih =>
      have e : lg_sl (v :: vs) = (if v.category = 2 then [Slot.val v, .second] else [.val v]) ++ lg_sl vs := by simp [lg_sl]
      have e2 : k_cat (v :: vs) = v.category + k_cat vs := by simp [k_cat]
      rw [e, List.length_append, ih, e2]
      rcases lv_cat v with h | h <;> simp [h]
  have hle : (lg_sl (av.map (k_cv ad))).length ≤ j.2.2.1 := by rw [hsl, show k_cat (av.map (k_cv ad)) = k_cat av from k_cat_cv ad av]; exact hn
  have hl := lv_entry (av.map (k_cv ad)) (n := j.2.2.1) hle
  rw [lg_entry_eq]
  generalize (lg_sl (av.map (k_cv ad)) ++ List.replicate (j.2.2.1 - (lg_sl (av.map (k_cv ad))).length) Slot.unset).toArray = ls at hl ⊢
  refine k p l e s m _ below meth c D cA ad s.heap [] ls ⟨B.exec, B.bytes, hml, B.returns, B.notSynchronized, findClass_of_methodNamed B.named, atoms_spec (ws := Cond.code j.1 j.2.1 j.2.2.1 j.2.2.2.1 :: k_ws) B.pre, hK, hN, hT⟩ hP hD va_S.rf ⟨hl.1, hl.2.1, fun i v hv => ?_⟩
  rw [← hlv] at hv
  have := k_la_mem (ad := ad) av _ 0 i v hv
  rw [Nat.zero_add] at this
  exact hl.2.2 _ this
