/-! THE JUDGEMENT: a method's frame over a fixed world of cells (no cell is made), in words that hide the machine.
kS: what the cells hold; kH: the world's shape; kM: a method. -/
abbrev kS : Type := (Nat → Nat → Int32) × (Nat → Nat → Int64)
abbrev kH : Type := List (Nat × Nat × List (Option Nat))
abbrev kM : Type := MethodName × ByteArray × Nat × Option FieldType × Nat × Nat
def k_ws : List Cond := lw_tbl.filter goodWord
def k_rm (j : kM) : Room := { frames := j.2.2.2.2.1, cells := 0, slots := 0, locals := j.2.2.2.2.2 }
def k_cv (ad : Nat → Nat) (v : Value) : Value := match v with
  | .ref k => .ref (ad k)
  | v => v
theorem k_cv_cat (ad : Nat → Nat) (v : Value) : (k_cv ad v).category = v.category := by cases v <;> rfl
def k_fv (ad : Nat → Nat) (h : Nat → Int32) (i : Nat) (o : Option Nat) : Value := match o with
  | none => .int (h i)
  | some q => .ref (ad q)
def k_cel (cA : Nat → ClassId) (ad : Nat → Nat) (σ : kS) (k : Nat) (c : Nat × Nat × List (Option Nat)) : va_E := match c.1 with
  | 0 => .inr (c.2.1, c.2.2.mapIdx (k_fv ad (σ.1 k)))
  | 1 => .inl (cA 1, c.2.1, .inl (σ.1 k))
  | 2 => .inl (cA 2, c.2.1, .inr (.inl (σ.2 k)))
  | 3 => .inl (cA 3, c.2.1, .inl (σ.1 k))
  | n => .inl (cA n, c.2.1, .inr (.inr (.inr (.inr fun i => (c.2.2.getD i none).map ad))))
def k_wd (S : kH) (cA : Nat → ClassId) (ad : Nat → Nat) (σ : kS) : va_W := S.mapIdx fun k c => (ad k, k_cel cA ad σ k c)
def k_A (ad : Nat → Nat) (n sz : Nat) : Nat → Prop := fun q => (∃ k, k < n ∧ q = ad k) ∨ sz ≤ q
def k_nw (U : State) : Prop := (∀ q ∈ k_nwM, va_Nw (.methodLinkNest q.1 q.2.1 q.2.2.1 q.2.2.2) U) ∧ ∀ q ∈ k_nwF, va_Nw (.fieldLinkNest q.1 q.2.1 q.2.2.1 q.2.2.2.1 q.2.2.2.2.1 q.2.2.2.2.2) U
def k_st (A : Nat → Prop) (ad : Nat → Nat) (U : State) (H : Heap) : Prop := ∀ q ∈ k_sts, va_Z q.2.1 q.2.2.1 q.2.2.2.1 (.ref (ad q.1)) A U H ∧ va_T .int (ad q.1) q.2.2.2.2.1 (fun i => .int (q.2.2.2.2.2 i)) A U H
def k_lh (ad : Nat → Nat) (ls : Array Slot) (nL : Nat) (lv : List (Option Value)) : Prop := ls.size = nL ∧ lv_wf ls ∧ ∀ (i : Nat) (v : Value), lv[i]? = some (some v) → ls[i]? = some (.val (k_cv ad v))
/-- the machine around a frame of j -/
def k_ev (S : kH) (j : kM) (p : Program) (s : State) (m : MethodId) (args : Array Value) (meth : Method) (c : Code) (D : va_G) (cA : Nat → ClassId) (ad : Nat → Nat) : Prop :=
  p.tables.exec = Jvm.exec ∧ c.code = j.2.1 ∧ c.maxLocals = j.2.2.1 ∧ meth.sig.returnType = j.2.2.2.1 ∧ meth.locks = false ∧ s.vm.findClass j.1.cls = some m.cls ∧ (∀ w ∈ Cond.code j.1 j.2.1 j.2.2.1 j.2.2.2.1 :: k_ws, w.before args s = true) ∧ va_K D vwCl (k_ty cA) s ∧ k_nw s ∧ k_st (k_A ad S.length s.heap.size) ad s s.heap
def k_Q (S : kH) (D : va_G) (cA : Nat → ClassId) (ad : Nat → Nat) (r : Option Value) (τ : kS) : Array Value → State → Outcome → State → Prop := fun _ st oc t =>
  (oc = .returned (r.map (k_cv ad)) ∧ va_P D vwCl (k_wd S cA ad τ) t.heap) ∧ va_F (k_A ad S.length st.heap.size) st t
def k_G (S : kH) (D : va_G) (cA : Nat → ClassId) (ad : Nat → Nat) (sz : Nat) (σ : kS) (U : State) : Prop :=
  va_P D vwCl (k_wd S cA ad σ) U.heap ∧ va_K D vwCl (k_ty cA) U ∧ va_D (k_A ad S.length sz) (k_wd S cA ad σ) ∧ k_nw U ∧ k_st (k_A ad S.length sz) ad U U.heap
def Ex (S : kH) (j : kM) (pc : Nat) (lv : List (Option Value)) (st : List Value) (σ : kS) (r : Option Value) (τ : kS) : Prop :=
  ∀ (p : Program) (l : Launch) (e : Env) (s : State) (m : MethodId) (args : Array Value) (below : List Frame) (meth : Method) (c : Code) (D : va_G) (cA : Nat → ClassId) (ad : Nat → Nat) (H : Heap) (locs : List Loc) (ls : Array Slot),
    k_ev S j p s m args meth c D cA ad → va_P D vwCl (k_wd S cA ad σ) H → va_D (k_A ad S.length s.heap.size) (k_wd S cA ad σ) → va_S (k_A ad S.length s.heap.size) s.heap H locs → k_lh ad ls j.2.2.1 lv →
    W p l e (k_rm j) s m args below meth c H locs 0 0 (MQ below (k_Q S D cA ad r τ) args s 0 0 (k_A ad S.length s.heap.size)) (F0 m pc ls (st.map (k_cv ad)))
def Run (S : kH) (j : kM) (av : List Value) (σ : kS) (r : Option Value) (τ : kS) : Prop :=
  ∀ (l : Launch) (D : va_G) (cA : Nat → ClassId) (ad : Nat → Nat) (sz : Nat), Met l j.1 (Cond.code j.1 j.2.1 j.2.2.1 j.2.2.2.1 :: k_ws) (k_rm j) (va_Pc (av.map (k_cv ad)) (fun U => U.heap.size = sz ∧ k_G S D cA ad sz σ U)) (k_Q S D cA ad r τ) 0 0 (k_A ad S.length sz)
/-! the world's cells -/
def k_is (S : kH) (k t n : Nat) : Bool := match S[k]? with
  | some c => c.1 == t && c.2.1 == n
  | none => false
def k_fd (S : kH) (k i : Nat) : Option (Option Nat) := match S[k]? with
  | some c => c.2.2[i]?
  | none => none
def k_si (σ : kS) (k i : Nat) (v : Int32) : kS := (fun a b => if a = k then (if b = i then v else σ.1 a b) else σ.1 a b, σ.2)
def k_sl (σ : kS) (k i : Nat) (v : Int64) : kS := (σ.1, fun a b => if a = k then (if b = i then v else σ.2 a b) else σ.2 a b)
def k_cp (σ : kS) (a0 a1 sp dp n : Nat) : kS := (fun a b => if a = a1 then va_cpy (σ.1 a0) (σ.1 a1) sp dp n b else σ.1 a b, σ.2)
def k_cl (σ : kS) (a0 a1 sp dp n : Nat) : kS := (σ.1, fun a b => if a = a1 then va_cpy (σ.2 a0) (σ.2 a1) sp dp n b else σ.2 a b)
theorem k_is_spec {S : kH} {k t n : Nat} (h : k_is S k t n = true) : ∃ fs, S[k]? = some (t, n, fs) := by
  unfold k_is at h
  cases hc : S[k]? with
  | none => rw [hc] at h; cases h
  | some c =>
    rw [hc] at h
    obtain ⟨a, b, fs⟩ := c
    simp only [Bool.and_eq_true, beq_iff_eq] at h
    exact ⟨fs, by rw [← h.1, ← h.2]⟩
theorem k_wd_at {S : kH} {cA : Nat → ClassId} {ad : Nat → Nat} {σ : kS} {k : Nat} {c : Nat × Nat × List (Option Nat)} (h : S[k]? = some c) : (k_wd S cA ad σ)[k]? = some (ad k, k_cel cA ad σ k c) := by
  simp [k_wd, List.getElem?_mapIdx, h]
theorem k_wd_lt {S : kH} {cA : Nat → ClassId} {ad : Nat → Nat} {σ : kS} {k : Nat} {q : Nat × va_E} (h : (k_wd S cA ad σ)[k]? = some q) : k < S.length ∧ q.1 = ad k := by
  simp only [k_wd, List.getElem?_mapIdx, Option.map_eq_some_iff] at h
  obtain ⟨c, h1, h2⟩ := h
  exact ⟨(List.getElem?_eq_some_iff.mp h1).1, by rw [← h2]⟩
theorem k_wd_set {S : kH} {cA : Nat → ClassId} {ad : Nat → Nat} {σ τ : kS} {k : Nat} {c : Nat × Nat × List (Option Nat)} (h : S[k]? = some c) (ho : ∀ a, a ≠ k → ∀ d, k_cel cA ad τ a d = k_cel cA ad σ a d) : (k_wd S cA ad σ).set k (ad k, k_cel cA ad τ k c) = k_wd S cA ad τ := by
  apply List.ext_getElem?
  intro i
  by_cases hi : i = k
  · subst hi
    have hl : i < S.length := (List.getElem?_eq_some_iff.mp h).1
    rw [List.getElem?_set_self (by simpa [k_wd] using hl), k_wd_at h]
  · rw [List.getElem?_set_ne (Ne.symm hi)]
    simp only [k_wd, List.getElem?_mapIdx]
    cases hc : S[i]? with
    | none => rfl
    | some d => simp [ho i hi d]
theorem k_cel_other {cA : Nat → ClassId} {ad : Nat → Nat} {σ τ : kS} {a : Nat} (h1 : τ.1 a = σ.1 a) (h2 : τ.2 a = σ.2 a) (d : Nat × Nat × List (Option Nat)) : k_cel cA ad τ a d = k_cel cA ad σ a d := by
  unfold k_cel
  rw [h1, h2]
theorem k_si_o {σ : kS} {k i a : Nat} {v : Int32} (h : a ≠ k) : (k_si σ k i v).1 a = σ.1 a := by
  funext b; simp [k_si, h]
theorem k_si_s {σ : kS} {k i : Nat} {v : Int32} : (k_si σ k i v).1 k = upd (σ.1 k) i v := by
  funext b; simp [k_si, upd]
theorem k_sl_o {σ : kS} {k i a : Nat} {v : Int64} (h : a ≠ k) : (k_sl σ k i v).2 a = σ.2 a := by
  funext b; simp [k_sl, h]
theorem k_sl_s {σ : kS} {k i : Nat} {v : Int64} : (k_sl σ k i v).2 k = vp_updL (σ.2 k) i v := by
  funext b; simp [k_sl, vp_updL]
theorem k_cp_o {σ : kS} {a0 a1 sp dp n a : Nat} (h : a ≠ a1) : (k_cp σ a0 a1 sp dp n).1 a = σ.1 a := by
  funext b; simp [k_cp, h]
theorem k_cp_s {σ : kS} {a0 a1 sp dp n : Nat} : (k_cp σ a0 a1 sp dp n).1 a1 = va_cpy (σ.1 a0) (σ.1 a1) sp dp n := by
  funext b; simp [k_cp]
theorem k_cl_o {σ : kS} {a0 a1 sp dp n a : Nat} (h : a ≠ a1) : (k_cl σ a0 a1 sp dp n).2 a = σ.2 a := by
  funext b; simp [k_cl, h]
theorem k_cl_s {σ : kS} {a0 a1 sp dp n : Nat} : (k_cl σ a0 a1 sp dp n).2 a1 = va_cpy (σ.2 a0) (σ.2 a1) sp dp n := by
  funext b; simp [k_cl]
theorem k_fv_set {ad : Nat → Nat} {h h' : Nat → Int32} {fs : List (Option Nat)} {i : Nat} {v : Int32} (hf : fs[i]? = some none) (hh : h' = upd h i v) : (fs.mapIdx (k_fv ad h)).set i (.int v) = fs.mapIdx (k_fv ad h') := by
  apply List.ext_getElem?
  intro a
  by_cases ha : a = i
  · subst ha
    have hl : a < fs.length := (List.getElem?_eq_some_iff.mp hf).1
    rw [List.getElem?_set_self (by simpa using hl), List.getElem?_mapIdx, hf, hh]
    simp [k_fv, upd]
  · rw [List.getElem?_set_ne (Ne.symm ha), List.getElem?_mapIdx, List.getElem?_mapIdx]
    cases fs[a]? with
    | none => rfl
    | some o => cases o <;> simp [k_fv, hh, upd, ha]
theorem k_DA {S : kH} {cA : Nat → ClassId} {ad : Nat → Nat} {σ τ : kS} {A B : Nat → Prop} (h : va_D A (k_wd S cA ad σ)) (hB : ∀ k, k < S.length → B (ad k)) : va_D B (k_wd S cA ad τ) := by
  refine ⟨fun i j p q hi hj hpq => ?_, fun k q hk => ?_⟩
  · obtain ⟨h1, h2⟩ := k_wd_lt hi
    obtain ⟨h3, h4⟩ := k_wd_lt hj
    have e1 : S[i]? = some S[i] := List.getElem?_eq_getElem h1
    have e2 : S[j]? = some S[j] := List.getElem?_eq_getElem h3
    exact h.1 i j _ _ (k_wd_at (σ := σ) e1) (k_wd_at (σ := σ) e2) (by rw [← h2, ← h4]; exact hpq)
  · obtain ⟨h1, h2⟩ := k_wd_lt hk
    rw [h2]
    exact hB k h1
/-! the locals -/
def k_ok1 (lv : List (Option Value)) (i : Nat) : Bool := match i with
  | 0 => true
  | k + 1 => match lv[k]? with
    | some (some v) => v.category == 1
    | _ => true
def k_ll (ad : Nat → Nat) (lv : List (Option Value)) : List (Nat × Value) := (List.range lv.length).filterMap fun i => match lv[i]? with
  | some (some v) => some (i, k_cv ad v)
  | _ => none
theorem k_ll_mem {ad : Nat → Nat} {lv : List (Option Value)} {i : Nat} {v : Value} (h : lv[i]? = some (some v)) : (i, k_cv ad v) ∈ k_ll ad lv := by
  refine List.mem_filterMap.mpr ⟨i, List.mem_range.mpr (List.getElem?_eq_some_iff.mp h).1, ?_⟩
  rw [h]
theorem k_ll_has {ad : Nat → Nat} {ls : Array Slot} {nL : Nat} {lv : List (Option Value)} (h : k_lh ad ls nL lv) : lv_has ls nL (k_ll ad lv) := by
  refine ⟨h.1, h.2.1, fun q hq => ?_⟩
  obtain ⟨i, -, hi⟩ := List.mem_filterMap.mp hq
  cases hc : lv[i]? with
  | none => rw [hc] at hi; cases hi
  | some o =>
    cases o with
    | none => rw [hc] at hi; cases hi
    | some v =>
      rw [hc] at hi
      cases hi
      exact h.2.2 i v hc
theorem k_lh_set1 {ad : Nat → Nat} {ls : Array Slot} {nL i : Nat} {lv : List (Option Value)} {v : Value} (h : lv_has ls nL ((i, k_cv ad v) :: (k_ll ad lv).filter (fun q => !(q.1 == i) && !(q.1 + 1 == i && q.2.category == 2)))) (ok : k_ok1 lv i = true) : k_lh ad ls nL (lv.set i (some v)) := by
  refine ⟨h.1, h.2.1, fun k w hk => ?_⟩
  by_cases hi : k = i
  · subst hi
    have hl : k < (lv.set k (some v)).length := (List.getElem?_eq_some_iff.mp hk).1
    rw [List.getElem?_set_self (by simpa using hl)] at hk
    cases hk
    exact h.2.2 (k, k_cv ad v) List.mem_cons_self
  · rw [List.getElem?_set_ne (Ne.symm hi)] at hk
    refine h.2.2 (k, k_cv ad w) (List.mem_cons_of_mem _ (List.mem_filter.mpr ⟨k_ll_mem hk, ?_⟩))
    simp only [Bool.and_eq_true, Bool.not_eq_true', beq_eq_false_iff_ne, ne_eq, Bool.and_eq_false_iff]
    refine ⟨hi, ?_⟩
    by_cases hk1 : k + 1 = i
    · refine Or.inr ?_
      subst hk1
      simp only [k_ok1, hk, beq_iff_eq] at ok
      rw [k_cv_cat, ok]
      decide
    · exact Or.inl hk1
theorem k_lh_set2 {ad : Nat → Nat} {ls : Array Slot} {nL i : Nat} {lv : List (Option Value)} {v : Value} (h : lv_has ls nL ((i, k_cv ad v) :: (k_ll ad lv).filter (fun q => !(q.1 == i) && (!(q.1 == i + 1) && !(q.1 + 1 == i && q.2.category == 2))))) (ok : k_ok1 lv i = true) : k_lh ad ls nL ((lv.set i (some v)).set (i + 1) none) := by
  refine ⟨h.1, h.2.1, fun k w hk => ?_⟩
  by_cases hi1 : k = i + 1
  · subst hi1
    have hl := (List.getElem?_eq_some_iff.mp hk).1
    rw [List.getElem?_set_self (by simpa using hl)] at hk
    cases hk
  · rw [List.getElem?_set_ne (Ne.symm hi1)] at hk
    by_cases hi : k = i
    · subst hi
      have hl : k < (lv.set k (some v)).length := (List.getElem?_eq_some_iff.mp hk).1
      rw [List.getElem?_set_self (by simpa using hl)] at hk
      cases hk
      exact h.2.2 (k, k_cv ad v) List.mem_cons_self
    · rw [List.getElem?_set_ne (Ne.symm hi)] at hk
      refine h.2.2 (k, k_cv ad w) (List.mem_cons_of_mem _ (List.mem_filter.mpr ⟨k_ll_mem hk, ?_⟩))
      simp only [Bool.and_eq_true, Bool.not_eq_true', beq_eq_false_iff_ne, ne_eq, Bool.and_eq_false_iff]
      refine ⟨hi, hi1, ?_⟩
      by_cases hk1 : k + 1 = i
      · refine Or.inr ?_
        subst hk1
        simp only [k_ok1, hk, beq_iff_eq] at ok
        rw [k_cv_cat, ok]
        decide
      · exact Or.inl hk1
