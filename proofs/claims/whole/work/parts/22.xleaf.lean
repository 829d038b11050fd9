/-! the class's small methods -/
def k_fi (σ : kS) (r n : Nat) (v : Int32) : kS := (fun a b => if a = r ∧ b < n then v else σ.1 a b, σ.2)
def k_fg (σ : kS) (r n : Nat) (v : Int64) : kS := (σ.1, fun a b => if a = r ∧ b < n then v else σ.2 a b)
theorem k_fi_s {σ : kS} {r n : Nat} {v : Int32} : k_si (k_fi σ r n v) r n v = k_fi σ r (n + 1) v := by
  refine Prod.ext ?_ rfl
  funext a b
  simp only [s_i, k_fi]
  by_cases ha : a = r <;> by_cases hb : b = n
  · simp [ha, hb]
  · have : (b < n + 1) = (b < n) := by simp; omega
    simp [ha, hb, this]
  · simp [ha]
  · simp [ha]
theorem k_fi_0 {σ : kS} {r : Nat} {v : Int32} : k_fi σ r 0 v = σ := by
  refine Prod.ext ?_ rfl
  funext a b
  simp [k_fi]
theorem k_fg_s {σ : kS} {r n : Nat} {v : Int64} : k_sl (k_fg σ r n v) r n v = k_fg σ r (n + 1) v := by
  refine Prod.ext rfl ?_
  funext a b
  simp only [s_l, k_fg]
  by_cases ha : a = r <;> by_cases hb : b = n
  · simp [ha, hb]
  · have : (b < n + 1) = (b < n) := by simp; omega
    simp [ha, hb, this]
  · simp [ha]
  · simp [ha]
theorem k_fg_0 {σ : kS} {r : Nat} {v : Int64} : k_fg σ r 0 v = σ := by
  refine Prod.ext rfl ?_
  funext a b
  simp [k_fg]
theorem fr_fi {L : List Nat} {σ : kS} {k n : Nat} {v : Int32} (h : k ∈ L) : fr L σ (k_fi σ k n v) := fun a ha => ⟨by funext b; simp only [k_fi]; rw [if_neg]; intro q; exact ha (q.1 ▸ h), rfl⟩
theorem fr_fg {L : List Nat} {σ : kS} {k n : Nat} {v : Int64} (h : k ∈ L) : fr L σ (k_fg σ k n v) := fun a ha => ⟨rfl, by funext b; simp only [k_fg]; rw [if_neg]; intro q; exact ha (q.1 ▸ h)⟩
theorem fr_cp {L : List Nat} {σ : kS} {a b i j n : Nat} (h : b ∈ L) : fr L σ (k_cp σ a b i j n) := fun k hk => ⟨k_cp_o (fun e => hk (e ▸ h)), rfl⟩
theorem fr_cl {L : List Nat} {σ : kS} {a b i j n : Nat} (h : b ∈ L) : fr L σ (k_cl σ a b i j n) := fun k hk => ⟨rfl, k_cl_o (fun e => hk (e ▸ h))⟩
theorem x_fill {r n : Nat} {v : Int32} {σ : kS} (hr : k_is SX r 1 n = true) (hn : n < 2 ^ 31) : R_J7_fill_53178 r n v σ (k_fi σ r n v) := by
  refine t_J7_fill_53178 hr ?_
  have key : ∀ i, i ≤ n → E_J7_fill_53178_5 r n v (nI i) (nI n) (k_fi σ r i v) (k_fi σ r n v) := by
    refine loop_up n ?_ (fun i hi ih => ?_)
    · exact t_J7_fill_53178_5 hr ⟨fun _ => rfl, fun c => absurd (nI_le (Nat.le_refl n) hn) c⟩
    · refine t_J7_fill_53178_5 hr ⟨fun c => absurd ((n_le hn (by omega)).mp c) (by omega), fun _ => ⟨n_in hi hn, ?_⟩⟩
      rw [n_N (by omega), k_fi_s, n_inc]
      exact ih
  have := key 0 (Nat.zero_le _)
  rw [k_fi_0, nI_0] at this
  exact this
theorem x_fillg {r n : Nat} {v : Int64} {σ : kS} (hr : k_is SX r 2 n = true) (hn : n < 2 ^ 31) : R_J7_fill_d0a16 r n v σ (k_fg σ r n v) := by
  refine t_J7_fill_d0a16 hr ?_
  have key : ∀ i, i ≤ n → E_J7_fill_d0a16_6 r n v (nI i) (nI n) (k_fg σ r i v) (k_fg σ r n v) := by
    refine loop_up n ?_ (fun i hi ih => ?_)
    · exact t_J7_fill_d0a16_6 hr ⟨fun _ => rfl, fun c => absurd (nI_le (Nat.le_refl n) hn) c⟩
    · refine t_J7_fill_d0a16_6 hr ⟨fun c => absurd ((n_le hn (by omega)).mp c) (by omega), fun _ => ⟨n_in hi hn, ?_⟩⟩
      rw [n_N (by omega), k_fg_s, n_inc]
      exact ih
  have := key 0 (Nat.zero_le _)
  rw [k_fg_0, nI_0] at this
  exact this
/-- the reference's own way to copy -/
theorem k_cp_st {σ : kS} {r0 r2 i j n : Nat} (h : r0 ≠ r2 ∨ j ≤ i) : k_si (k_cp σ r0 r2 i j n) r2 (j + n) ((k_cp σ r0 r2 i j n).1 r0 (i + n)) = k_cp σ r0 r2 i j (n + 1) := by
  refine Prod.ext ?_ rfl
  have hrd : (k_cp σ r0 r2 i j n).1 r0 (i + n) = σ.1 r0 (i + n) := by
    simp only [k_cp, va_cpy]
    split
    · rename_i e
      rw [if_neg, e]
      intro q
      rcases h with h | h
      · exact h e
      · omega
    · rfl
  rw [hrd]
  funext a b
  simp only [s_i, k_cp, va_cpy]
  by_cases ha : a = r2
  · subst ha
    simp only [if_true]
    by_cases hb : b = j + n
    · subst hb
      rw [if_pos rfl, if_pos (by omega)]
      rw [show i + (j + n - j) = i + n by omega]
    · rw [if_neg hb]
      by_cases h1 : j ≤ b ∧ b < j + n
      · rw [if_pos h1, if_pos (by omega)]
      · rw [if_neg h1, if_neg (by omega)]
  · simp [ha]
theorem k_cp_0 {σ : kS} {r0 r2 i j : Nat} : k_cp σ r0 r2 i j 0 = σ := by
  refine Prod.ext ?_ rfl
  funext a b
  simp only [k_cp, va_cpy]
  split
  · rename_i e
    rw [if_neg (by omega), e]
  · rfl
theorem m_bring {r0 n0 r2 n2 i j n : Nat} {σ : kS} (h0 : k_is SM r0 1 n0 = true) (h2 : k_is SM r2 1 n2 = true) (hi : i + n ≤ n0) (hj : j + n ≤ n2) (hn0 : n0 < 2 ^ 31) (hn2 : n2 < 2 ^ 31) (h : r0 ≠ r2 ∨ j ≤ i) : R_X9_bring r0 n0 (nI i) r2 n2 (nI j) (nI n) σ (k_cp σ r0 r2 i j n) := by
  refine t_X9_bring h0 h2 ?_
  have key : ∀ m, m ≤ n → E_X9_bring_3 r0 n0 r2 n2 (nI i) (nI j) (nI n) (nI m) (k_cp σ r0 r2 i j m) (k_cp σ r0 r2 i j n) := by
    refine loop_up n ?_ (fun m hm ih => ?_)
    · exact t_X9_bring_3 h0 h2 ⟨fun _ => rfl, fun c => absurd (nI_le (Nat.le_refl n) (by omega)) c⟩
    · refine t_X9_bring_3 h0 h2 ⟨fun c => absurd ((n_le (by omega) (by omega)).mp c) (by omega), fun _ => ?_⟩
      rw [nI_add, nI_add, n_N (by omega), n_N (by omega), k_cp_st h, n_inc]
      exact ⟨n_in (by omega) hn0, n_in (by omega) hn2, ih⟩
  have := key 0 (Nat.zero_le _)
  rw [k_cp_0, nI_0] at this
  exact this
/-! bits -/
def bcI (a0 : Int32) : Int32 := let a := a0 - (((a0.toUInt32 >>> ((1 : Int32).toUInt32 &&& Int32.toUInt32 31)).toInt32) &&& 1431655765); let b := (a &&& 858993459) + (((a.toUInt32 >>> ((2 : Int32).toUInt32 &&& Int32.toUInt32 31)).toInt32) &&& 858993459); let c := (b + ((b.toUInt32 >>> ((4 : Int32).toUInt32 &&& Int32.toUInt32 31)).toInt32)) &&& 252645135; let d := c + ((c.toUInt32 >>> ((8 : Int32).toUInt32 &&& Int32.toUInt32 31)).toInt32); let e := d + ((d.toUInt32 >>> ((16 : Int32).toUInt32 &&& Int32.toUInt32 31)).toInt32); e &&& 63
theorem bc_ok0 : ∀ a, a < 64 → ∀ b, b < 64 → bcI (nI (64 * a + b)) = nI (pop (64 * a + b)) := by decide +kernel
theorem bc_ok (n : Nat) (h : n < 4096) : bcI (nI n) = nI (pop n) := by
  have := bc_ok0 (n / 64) (by omega) (n % 64) (by omega)
  rwa [show 64 * (n / 64) + n % 64 = n by omega] at this
theorem x_bits {n : Nat} {σ : kS} (h : n < 4096) : R_J6_bitCount_0f7a4 (nI n) σ (nI (pop n)) σ := by
  refine t_J6_bitCount_0f7a4 ⟨?_, rfl⟩
  rw [← bc_ok n h]
  rfl
theorem m_bits {n : Nat} {σ : kS} (h : n < 4096) : R_X9_bits (nI n) σ (nI (pop n)) σ := by
  refine t_X9_bits ?_
  have key : ∀ k, k ≤ 12 → E_X9_bits_4 (nI n) (nI (popL k n)) (nI k) σ (nI (pop n)) σ := by
    refine loop_up 12 ?_ (fun k hk ih => ?_)
    · exact t_X9_bits_4 ⟨fun _ => ⟨rfl, rfl⟩, fun c => absurd (Int32.le_refl _) c⟩
    · refine t_X9_bits_4 ⟨fun c => absurd ((n_le (a := 12) (by omega) (by omega)).mp c) (by omega), fun _ => ?_⟩
      rw [n_bit (by omega) (by omega), nI_add, n_inc]
      exact ih
  exact key 0 (Nat.zero_le _)
/-! a valley's own -/
theorem x_rested {v : Nat} {σ : kS} {A : Nat → Nat} (hv : k_vly v = true) (h : vx v σ A) (hW : WF A) : R_X7_rested v σ (nI (rst A)) σ := by
  refine t_X7_rested hv ?_
  have h5 := (wfc hW).2.2
  have key : ∀ i, i ≤ A 3 → E_X7_rested_4 v (nI (orF i (fun i => decide (A (28 + i) < 8)))) (nI i) σ (nI (rst A)) σ := by
    refine loop_up (A 3) ?_ (fun i hi ih => ?_)
    · exact t_X7_rested_4 hv ⟨fun _ => ⟨rfl, rfl⟩, fun c => absurd (by rw [h.1.2.2.1]; exact Int32.le_refl _) c⟩
    · refine t_X7_rested_4 hv ⟨fun c => absurd ((n_le (by omega) (by omega)).mp (h.1.2.2.1 ▸ c)) (by omega), fun _ => ⟨n_in (by omega) (by decide), ?_⟩⟩
      have ht := (hW.2.2.2.2.2 i hi).2.2.1
      rw [n_N (by omega), (h.2.2.2 i hi).2.2.2.1, n_inc, n_one i (by omega), n_or]
      refine ⟨fun c => ?_, fun c => ?_⟩
      · rw [orF_f (decide_eq_false (by have := (n_le (a := 8) (by omega) (by omega)).mp c; omega))] at ih
        exact ih
      · rw [orF_t (decide_eq_true (by have := mt (n_le (a := 8) (by omega) (by omega)).mpr c; omega))] at ih
        exact ih
  exact key 0 (Nat.zero_le _)
theorem x_standing {v f : Nat} {σ : kS} {A : Nat → Nat} (hv : k_vly v = true) (h : vx v σ A) (hW : WF A) (hf : f < 9) : R_X7_standing v (nI f) σ (nI (who A f)) σ := by
  refine t_X7_standing hv ?_
  have h5 := (wfc hW).2.2
  have h2 := (wfc hW).2.1
  have key : ∀ i, i ≤ A 3 → E_X7_standing_4 v (nI f) (nI (orF i (fun i => decide (A (33 + i) = f)))) (nI i) σ (nI (who A f)) σ := by
    refine loop_up (A 3) ?_ (fun i hi ih => ?_)
    · exact t_X7_standing_4 hv ⟨fun _ => ⟨rfl, rfl⟩, fun c => absurd (by rw [h.1.2.2.1]; exact Int32.le_refl _) c⟩
    · refine t_X7_standing_4 hv ⟨fun c => absurd ((n_le (by omega) (by omega)).mp (h.1.2.2.1 ▸ c)) (by omega), fun _ => ⟨n_in (by omega) (by decide), ?_⟩⟩
      have ht := (hW.2.2.2.2.2 i hi).2.2.2
      rw [n_N (by omega), (h.2.2.2 i hi).2.2.2.2, n_inc, n_one i (by omega), n_or, pI_eq hf (by omega)]
      refine ⟨fun c => ?_, fun c => ?_⟩
      · rw [orF_f (decide_eq_false c)] at ih
        exact ih
      · rw [orF_t (decide_eq_true c)] at ih
        exact ih
  exact key 0 (Nat.zero_le _)
theorem x_tired {v : Nat} {σ : kS} {A : Nat → Nat} (hv : k_vly v = true) (h : vx v σ A) (hW : WF A) : R_X7_tiredInAll v σ (nI (trd A)) σ := by
  refine t_X7_tiredInAll hv ?_
  have h5 := (wfc hW).2.2
  have key : ∀ i, i ≤ A 3 → E_X7_tiredInAll_4 v (nI (sumF i (fun i => A (28 + i)))) (nI i) σ (nI (trd A)) σ := by
    refine loop_up (A 3) ?_ (fun i hi ih => ?_)
    · exact t_X7_tiredInAll_4 hv ⟨fun _ => ⟨rfl, rfl⟩, fun c => absurd (by rw [h.1.2.2.1]; exact Int32.le_refl _) c⟩
    · refine t_X7_tiredInAll_4 hv ⟨fun c => absurd ((n_le (by omega) (by omega)).mp (h.1.2.2.1 ▸ c)) (by omega), fun _ => ⟨n_in (by omega) (by decide), ?_⟩⟩
      rw [n_N (by omega), (h.2.2.2 i hi).2.2.2.1, n_inc, nI_add]
      exact ih
  exact key 0 (Nat.zero_le _)
theorem x_range {v i : Nat} {σ : kS} {A : Nat → Nat} (hv : k_vly v = true) (h : vx v σ A) (hW : WF A) (hi : i < A 3) : R_X7_range v (nI i) σ (nI (rng A i)) σ := by
  have h5 := (wfc hW).2.2
  obtain ⟨-, hlh, -⟩ := hW.2.2.2.2.2 i hi
  refine t_X7_range hv ⟨n_in (by omega) (by decide), n_in (by omega) (by decide), ?_, rfl⟩
  rw [n_N (by omega), (h.2.2.2 i hi).2.2.1, (h.2.2.2 i hi).2.1, n_two _ (by omega), n_one _ (by omega), pk_sub]
  · rfl
  · exact Nat.pow_le_pow_right (by decide) (by omega)
/-! which pitch -/
theorem lwN_go {m : Nat} : ∀ k, k ≤ 12 → (∀ v, v < k → m.testBit v = false) → (k < 12 ∧ m.testBit k = true → lwN m = k) ∧ (k = 12 → lwN m = 12) := by
  intro k hk h
  have e : ∀ n j, j ≤ n → n ≤ 12 → (∀ v, v < j → m.testBit v = false) → ((j < n ∧ m.testBit j = true → ((List.range n).find? (fun v => m.testBit v)).getD 12 = j) ∧ (j = n → ((List.range n).find? (fun v => m.testBit v)).getD 12 = 12)) := by
    intro n j hj hn h
    constructor
    · intro ⟨h1, h2⟩
      have : (List.range n).find? (fun v => m.testBit v) = some j := by
        rw [List.find?_range_eq_some]
        exact ⟨h2, List.mem_range.mpr h1, fun v hv => by simp [h v hv]⟩
      rw [this]; rfl
    · intro h1
      have : (List.range n).find? (fun v => m.testBit v) = none := by
        rw [List.find?_eq_none]
        intro v hv
        have := List.mem_range.mp hv
        simp [h v (by omega)]
      rw [this]; rfl
  exact e 12 k hk (Nat.le_refl _) h
theorem x_least {m : Nat} {σ : kS} (hm : m < 4096) : R_X1_least (nI m) σ (nI (lwN m)) σ := by
  refine t_X1_least ?_
  have key : ∀ k, k ≤ 12 → (∀ v, v < k → m.testBit v = false) → E_X1_least_2 (nI m) (nI k) σ (nI (lwN m)) σ := by
    refine loop_up 12 (fun h => ?_) (fun k hk ih h => ?_)
    · exact t_X1_least_2 ⟨fun _ => ⟨by rw [(lwN_go 12 (Nat.le_refl _) h).2 rfl]; rfl, rfl⟩, fun c => absurd (Int32.le_refl _) c⟩
    · refine t_X1_least_2 ⟨fun c => absurd ((n_le (a := 12) (by omega) (by omega)).mp c) (by omega), fun _ => ?_⟩
      rw [n_hs (by omega) (by omega), n_inc]
      refine ⟨fun c => ih (fun v hv => ?_), fun c => ⟨by rw [(lwN_go k (by omega) h).1 ⟨hk, c⟩], rfl⟩⟩
      rcases Nat.lt_or_ge v k with q | q
      · exact h v q
      · have : v = k := by omega
        subst this; simpa using c
  exact key 0 (Nat.zero_le _) (fun v hv => by omega)
