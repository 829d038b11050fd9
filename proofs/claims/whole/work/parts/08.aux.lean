/-! small rules for the printed stretches -/
noncomputable def bI (p : Prop) : Int32 := by
  classical exact if p then 1 else 0
def k_z (x : Int32) : Prop := narrow .boolean (.int x) = .int x
theorem bI_t {p : Prop} (h : p) : bI p = 1 := if_pos h
theorem bI_f {p : Prop} (h : ¬ p) : bI p = 0 := if_neg h
theorem k_zb (p : Prop) : narrow .boolean (.int (bI p)) = .int (bI p) := by
  by_cases h : p
  · rw [bI_t h]; rfl
  · rw [bI_f h]; rfl
def k_vly (v : Nat) : Bool := v == 3 || v == 11 || v == 39 || v == 47
def k_sht (s : Nat) : Bool := s == 55 || s == 57 || s == 59 || s == 61
theorem vl_c {v : Nat} (h : k_vly v = true) : v = 3 ∨ v = 11 ∨ v = 39 ∨ v = 47 := by
  simp only [k_vly, Bool.or_eq_true, beq_iff_eq] at h
  omega
theorem sh_c {s : Nat} (h : k_sht s = true) : s = 55 ∨ s = 57 ∨ s = 59 ∨ s = 61 := by
  simp only [k_sht, Bool.or_eq_true, beq_iff_eq] at h
  omega
theorem vl_is {v : Nat} (h : k_vly v = true) : k_is SX v 0 7 = true := by rcases vl_c h with rfl | rfl | rfl | rfl <;> rfl
theorem vl_i0 {v : Nat} (h : k_vly v = true) : k_fd SX v 0 = some none := by rcases vl_c h with rfl | rfl | rfl | rfl <;> rfl
theorem vl_i1 {v : Nat} (h : k_vly v = true) : k_fd SX v 1 = some none := by rcases vl_c h with rfl | rfl | rfl | rfl <;> rfl
theorem vl_i2 {v : Nat} (h : k_vly v = true) : k_fd SX v 2 = some none := by rcases vl_c h with rfl | rfl | rfl | rfl <;> rfl
theorem vl_i3 {v : Nat} (h : k_vly v = true) : k_fd SX v 3 = some none := by rcases vl_c h with rfl | rfl | rfl | rfl <;> rfl
theorem vl_r4 {v : Nat} (h : k_vly v = true) : k_fd SX v 4 = some (some (v + 1)) := by rcases vl_c h with rfl | rfl | rfl | rfl <;> rfl
theorem vl_r5 {v : Nat} (h : k_vly v = true) : k_fd SX v 5 = some (some (v + 2)) := by rcases vl_c h with rfl | rfl | rfl | rfl <;> rfl
theorem vl_r6 {v : Nat} (h : k_vly v = true) : k_fd SX v 6 = some (some (v + 3)) := by rcases vl_c h with rfl | rfl | rfl | rfl <;> rfl
theorem vl_r7 {v : Nat} (h : k_vly v = true) : k_fd SX v 7 = some (some (v + 4)) := by rcases vl_c h with rfl | rfl | rfl | rfl <;> rfl
theorem vl_r8 {v : Nat} (h : k_vly v = true) : k_fd SX v 8 = some (some (v + 5)) := by rcases vl_c h with rfl | rfl | rfl | rfl <;> rfl
theorem vl_r9 {v : Nat} (h : k_vly v = true) : k_fd SX v 9 = some (some (v + 6)) := by rcases vl_c h with rfl | rfl | rfl | rfl <;> rfl
theorem vl_r10 {v : Nat} (h : k_vly v = true) : k_fd SX v 10 = some (some (v + 7)) := by rcases vl_c h with rfl | rfl | rfl | rfl <;> rfl
theorem vl_a4 {v : Nat} (h : k_vly v = true) : k_is SX (v + 1) 1 4 = true := by rcases vl_c h with rfl | rfl | rfl | rfl <;> rfl
theorem vl_a5 {v : Nat} (h : k_vly v = true) : k_is SX (v + 2) 1 5 = true := by rcases vl_c h with rfl | rfl | rfl | rfl <;> rfl
theorem vl_a6 {v : Nat} (h : k_vly v = true) : k_is SX (v + 3) 1 5 = true := by rcases vl_c h with rfl | rfl | rfl | rfl <;> rfl
theorem vl_a7 {v : Nat} (h : k_vly v = true) : k_is SX (v + 4) 1 5 = true := by rcases vl_c h with rfl | rfl | rfl | rfl <;> rfl
theorem vl_a8 {v : Nat} (h : k_vly v = true) : k_is SX (v + 5) 1 5 = true := by rcases vl_c h with rfl | rfl | rfl | rfl <;> rfl
theorem vl_a9 {v : Nat} (h : k_vly v = true) : k_is SX (v + 6) 1 5 = true := by rcases vl_c h with rfl | rfl | rfl | rfl <;> rfl
theorem vl_a10 {v : Nat} (h : k_vly v = true) : k_is SX (v + 7) 1 5 = true := by rcases vl_c h with rfl | rfl | rfl | rfl <;> rfl
theorem sh_is {s : Nat} (h : k_sht s = true) : k_is SX s 0 4 = true := by rcases sh_c h with rfl | rfl | rfl | rfl <;> rfl
theorem sh_i0 {s : Nat} (h : k_sht s = true) : k_fd SX s 0 = some none := by rcases sh_c h with rfl | rfl | rfl | rfl <;> rfl
theorem sh_i1 {s : Nat} (h : k_sht s = true) : k_fd SX s 1 = some none := by rcases sh_c h with rfl | rfl | rfl | rfl <;> rfl
theorem sh_r {s : Nat} (h : k_sht s = true) : k_fd SX s 2 = some (some (s + 1)) := by rcases sh_c h with rfl | rfl | rfl | rfl <;> rfl
theorem sh_a {s : Nat} (h : k_sht s = true) : k_is SX (s + 1) 2 24 = true := by rcases sh_c h with rfl | rfl | rfl | rfl <;> rfl
theorem k_inK {i : Int32} {n k : Nat} (hk : i.toNatClampNeg = k) (h : ¬ i < 0 ∧ k < n) : vp_in i n := by
  unfold vp_in
  rw [hk]
  exact fun q => q.elim h.1 (fun z => Nat.not_le.mpr h.2 z)
theorem x_ialoadK {S : kH} {j : kM} {pc : Nat} {lv : List (Option Value)} {st : List Value} {σ : kS} {r : Option Value} {τ : kS} {a n : Nat} {i : Int32} (k0 : Nat) (d : decode j.2.1 pc = .ok (.iaload, 1)) (h1 : k_is S a 1 n = true) (hk : i.toNatClampNeg = k0) (hi : ¬ i < 0 ∧ k0 < n) (k : Ex S j (pc + 1) lv (.int (σ.1 a k0) :: st) σ r τ) : Ex S j pc lv (.int i :: .ref a :: st) σ r τ := x_iaload d h1 (k_inK hk hi) (by rw [hk]; exact k)
theorem x_laloadK {S : kH} {j : kM} {pc : Nat} {lv : List (Option Value)} {st : List Value} {σ : kS} {r : Option Value} {τ : kS} {a n : Nat} {i : Int32} (k0 : Nat) (d : decode j.2.1 pc = .ok (.laload, 1)) (h1 : k_is S a 2 n = true) (hk : i.toNatClampNeg = k0) (hi : ¬ i < 0 ∧ k0 < n) (k : Ex S j (pc + 1) lv (.long (σ.2 a k0) :: st) σ r τ) : Ex S j pc lv (.int i :: .ref a :: st) σ r τ := x_laload d h1 (k_inK hk hi) (by rw [hk]; exact k)
theorem x_baloadK {S : kH} {j : kM} {pc : Nat} {lv : List (Option Value)} {st : List Value} {σ : kS} {r : Option Value} {τ : kS} {a n : Nat} {i : Int32} (k0 : Nat) (d : decode j.2.1 pc = .ok (.baload, 1)) (h1 : k_is S a 3 n = true) (hk : i.toNatClampNeg = k0) (hi : ¬ i < 0 ∧ k0 < n) (k : Ex S j (pc + 1) lv (.int (σ.1 a k0) :: st) σ r τ) : Ex S j pc lv (.int i :: .ref a :: st) σ r τ := x_baload d h1 (k_inK hk hi) (by rw [hk]; exact k)
theorem x_iastoreK {S : kH} {j : kM} {pc : Nat} {lv : List (Option Value)} {st : List Value} {σ : kS} {r : Option Value} {τ : kS} {a n : Nat} {i v : Int32} (k0 : Nat) (d : decode j.2.1 pc = .ok (.iastore, 1)) (h1 : k_is S a 1 n = true) (hk : i.toNatClampNeg = k0) (hi : ¬ i < 0 ∧ k0 < n) (k : Ex S j (pc + 1) lv st (k_si σ a k0 v) r τ) : Ex S j pc lv (.int v :: .int i :: .ref a :: st) σ r τ := x_iastore d h1 (k_inK hk hi) (by rw [hk]; exact k)
theorem x_copyiK {S : kH} {j : kM} {pc : Nat} {lv : List (Option Value)} {st : List Value} {σ : kS} {r : Option Value} {τ : kS} {idx a0 a1 n0 n1 : Nat} {sp dp n : Int32} (sk dk nk : Nat) (d : decode j.2.1 pc = .ok (.invokestatic idx, 3)) (hw : k_ac j.1.cls idx) (h0 : k_is S a0 1 n0 = true) (h1 : k_is S a1 1 n1 = true) (hk : sp.toNatClampNeg = sk ∧ dp.toNatClampNeg = dk ∧ n.toNatClampNeg = nk)
    (h2 : ¬ sp < 0 ∧ ¬ dp < 0 ∧ ¬ n < 0 ∧ sk + nk ≤ n0 ∧ dk + nk ≤ n1) (hR : 1 ≤ j.2.2.2.2.1 ∧ k_cat st + (nativeFrameWords "java/lang/System" "arraycopy" 5 + 11) ≤ j.2.2.2.2.2)
    (k : Ex S j (pc + 3) lv st (k_cp σ a0 a1 sk dk nk) r τ) : Ex S j pc lv (.int n :: .int dp :: .ref a1 :: .int sp :: .ref a0 :: st) σ r τ := by
  obtain ⟨rfl, rfl, rfl⟩ := hk
  exact x_copyi d hw h0 h1 h2 hR k
theorem x_bif_ne {S : kH} {j : kM} {pc : Nat} {lv : List (Option Value)} {st : List Value} {σ : kS} {r : Option Value} {τ : kS} {p : Prop} {off : Int} (t : Nat) (d : decode j.2.1 pc = .ok (.ifCond .ne off, 3)) (ht : (pc : Int) + off = (t : Int)) (kt : p → Ex S j t lv st σ r τ) (kf : ¬ p → Ex S j (pc + 3) lv st σ r τ) : Ex S j pc lv (.int (bI p) :: st) σ r τ := by
  refine x_if_ne t d ht (fun h => ?_) (fun h => ?_)
  · exact kt (Classical.byContradiction fun q => h (bI_f q))
  · exact kf (fun q => by rw [bI_t q] at h; exact absurd h (by decide))
theorem x_bif_eq {S : kH} {j : kM} {pc : Nat} {lv : List (Option Value)} {st : List Value} {σ : kS} {r : Option Value} {τ : kS} {p : Prop} {off : Int} (t : Nat) (d : decode j.2.1 pc = .ok (.ifCond .eq off, 3)) (ht : (pc : Int) + off = (t : Int)) (kt : ¬ p → Ex S j t lv st σ r τ) (kf : p → Ex S j (pc + 3) lv st σ r τ) : Ex S j pc lv (.int (bI p) :: st) σ r τ := by
  refine x_if_eq t d ht (fun h => ?_) (fun h => ?_)
  · exact kt (fun q => by rw [bI_t q] at h; exact absurd h (by decide))
  · exact kf (Classical.byContradiction fun q => h (bI_f q))
theorem x_ireturn2 {S : kH} {j : kM} {pc : Nat} {lv : List (Option Value)} {σ τ : kS} {x y : Int32} (d : decode j.2.1 pc = .ok (.ireturn, 1)) (hr : j.2.2.2.1 = some .int) (hx : y = x) (ht : τ = σ) : Ex S j pc lv [.int x] σ (some (.int y)) τ := by
  subst hx; subst ht; exact x_ireturn d hr
theorem x_zreturn2 {S : kH} {j : kM} {pc : Nat} {lv : List (Option Value)} {σ τ : kS} {x y : Int32} (d : decode j.2.1 pc = .ok (.ireturn, 1)) (hr : j.2.2.2.1 = some .boolean) (hz : narrow .boolean (.int x) = .int x) (hx : y = x) (ht : τ = σ) : Ex S j pc lv [.int x] σ (some (.int y)) τ := by
  subst hx; subst ht; exact x_zreturn d hr hz
theorem x_lreturn2 {S : kH} {j : kM} {pc : Nat} {lv : List (Option Value)} {σ τ : kS} {x y : Int64} (d : decode j.2.1 pc = .ok (.lreturn, 1)) (hr : j.2.2.2.1 = some .long) (hx : y = x) (ht : τ = σ) : Ex S j pc lv [.long x] σ (some (.long y)) τ := by
  subst hx; subst ht; exact x_lreturn d hr
theorem x_return2 {S : kH} {j : kM} {pc : Nat} {lv : List (Option Value)} {σ τ : kS} (d : decode j.2.1 pc = .ok (.return_, 1)) (hr : j.2.2.2.1 = none) (ht : τ = σ) : Ex S j pc lv [] σ none τ := by
  subst ht; exact x_return d hr
def k_mask : List Bool → List (Option Value) → List (Option Value)
  | _, [] => []
  | [], _ :: lv => none :: k_mask [] lv
  | true :: bs, v :: lv => v :: k_mask bs lv
  | false :: bs, _ :: lv => none :: k_mask bs lv
theorem k_mask_le : ∀ (lv : List (Option Value)) (bs : List Bool) (i : Nat) (v : Value), (k_mask bs lv)[i]? = some (some v) → lv[i]? = some (some v) := by
  intro lv
  induction lv with
  | nil => intro bs i v h; cases bs <;> simp [k_mask] at h
  | cons w lv ih =>
    intro bs i v h
    match bs, i, h with
    | [], 0, h => simp [k_mask] at h
    | [], i + 1, h => simp only [k_mask, List.getElem?_cons_succ] at h ⊢; exact ih [] i v h
    | true :: bs, 0, h => simpa [k_mask] using h
    | true :: bs, i + 1, h => simp only [k_mask, List.getElem?_cons_succ] at h ⊢; exact ih bs i v h
    | false :: bs, 0, h => simp [k_mask] at h
    | false :: bs, i + 1, h => simp only [k_mask, List.getElem?_cons_succ] at h ⊢; exact ih bs i v h
theorem x_mask {S : kH} {j : kM} {pc : Nat} {lv : List (Option Value)} {st : List Value} {σ : kS} {r : Option Value} {τ : kS} (bs : List Bool) (k : Ex S j pc (k_mask bs lv) st σ r τ) : Ex S j pc lv st σ r τ := x_fewer _ (k_mask_le lv bs) k
theorem k_tb_cons {pc : Nat} {x : Int32} {P : Nat → Prop} {lo o : Int} {os : List Int} (h : x.toInt = lo → P ((pc : Int) + o).toNat) (k : k_tb pc x P (lo + 1) os) : k_tb pc x P lo (o :: os) := ⟨h, k⟩
theorem k_tb_nil {pc : Nat} {x : Int32} {P : Nat → Prop} {lo : Int} : k_tb pc x P lo [] := trivial
theorem k_lk_cons {pc : Nat} {x : Int32} {P : Nat → Prop} {dflt : Int} {q : Int × Int} {qs : List (Int × Int)} (h : x.toInt = q.1 → P ((pc : Int) + q.2).toNat) (k : ¬ x.toInt = q.1 → k_lk pc x P dflt qs) : k_lk pc x P dflt (q :: qs) := ⟨h, k⟩
theorem k_lk_nil {pc : Nat} {x : Int32} {P : Nat → Prop} {dflt : Int} (h : P ((pc : Int) + dflt).toNat) : k_lk pc x P dflt [] := h
