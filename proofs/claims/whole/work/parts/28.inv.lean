/-! what binds the class's store to the reference's -/
def I1 (A : Nat → Nat) (σ μ : kS) : Prop := WF A ∧ A 0 ≤ 9999 ∧ vx 3 σ A ∧ mr 5 μ A ∧ (0 < A 1 → CT σ A)
def I2 (σ μ : kS) : Prop := ∃ n, n ≤ 130 ∧ σ.1 1 1 = nI n ∧ μ.1 0 3 = nI n ∧ ∀ i, i < n → ∃ b, b < 256 ∧ σ.1 2 i = nI b ∧ μ.1 4 i = nI b
def I3 (σ μ : kS) : Prop := ∀ k, k < 2 → (μ.1 9 k = 0 ∧ σ.1 (39 + 8 * k) 1 = 0) ∨ (μ.1 9 k = 1 ∧ ∃ B, WF B ∧ B 0 ≤ 9999 ∧ 0 < B 1 ∧ vx (39 + 8 * k) σ B ∧ ∀ i, i < 38 → μ.1 8 (38 * k + i) = vI B i)
/-- W is what U was before an act (kept as a, b, c) -/
def UN (a b c : Int32) (U W : Nat → Nat) : Prop :=
  (a = 0 ∧ W 0 + 1 = U 0 ∧ (∀ j, j ≠ 0 → (j < 28 ∨ 28 + U 3 ≤ j) → W j = U j) ∧ b = nI (sumF (U 3) (fun i => W (28 + i) * 16 ^ i))) ∨
  (a = 1 ∧ ∃ p, p < U 3 ∧ b = nI p ∧ c = pI (W (33 + p)) ∧ ∀ j, j ≠ 33 + p → W j = U j) ∨
  (a = 2 ∧ ∃ f p, f < U 2 ∧ p < 12 ∧ b = nI f ∧ c = nI p ∧ W (8 + f) = U (8 + f) ^^^ 2 ^ p ∧ ∀ j, j ≠ 8 + f → W j = U j)
def I4 (A : Nat → Nat) (σ μ : kS) : Prop := ∃ (a x : Nat) (S : Nat → Nat → Nat), a ≤ 24 ∧ x < 24 ∧ σ.1 20 0 = nI a ∧ σ.1 20 1 = nI x ∧ μ.1 0 12 = nI a ∧ S a = A ∧ (0 < a → 0 < A 1) ∧
  ∀ j, j < a → (WF (S j) ∧ S j 0 ≤ 9999) ∧ (∀ i, i < 38 → μ.1 10 (38 * j + i) = vI (S j) i) ∧ UN (σ.1 21 ((x + 24 - a + j) % 24)) (σ.1 22 ((x + 24 - a + j) % 24)) (σ.1 23 ((x + 24 - a + j) % 24)) (S (j + 1)) (S j)
def I5 (σ μ : kS) : Prop := ∀ s, s < 4 → σ.1 (55 + 2 * s) 0 = μ.1 1 s ∧ (μ.1 1 s = -1 ∨ ∃ l n, l < 4 ∧ n ≤ 24 ∧ μ.1 1 s = nI l ∧ σ.1 (55 + 2 * s) 1 = nI n ∧ μ.1 2 s = nI n ∧ ∀ i, i < 24 → σ.2 (56 + 2 * s) i = μ.2 3 (24 * s + i))
def Inv (σ μ : kS) : Prop := ∃ A, I1 A σ μ ∧ I2 σ μ ∧ I3 σ μ ∧ I4 A σ μ ∧ I5 σ μ
/-- cells that outlast no call -/
def scX : List Nat := [11, 12, 13, 14, 15, 16, 17, 18, 28, 29, 30, 31, 32, 33, 34, 35, 36, 37]
def scM : List Nat := [0, 6, 7, 11, 12, 13, 14]
theorem I1_kp {A : Nat → Nat} {σ μ τ ν : kS} (h : I1 A σ μ) (h1 : ∀ k, (3 ≤ k ∧ k ≤ 10) ∨ k = 25 ∨ k = 26 → τ.1 k = σ.1 k) (h2 : ν.1 5 = μ.1 5) : I1 A τ ν :=
  ⟨h.1, h.2.1, vx_kp h.2.2.1 (fun k a b => h1 k (by omega)), mr_kp h.2.2.2.1 h2, fun q => CT_o (h.2.2.2.2 q) (h1 25 (by omega)) (h1 26 (by omega))⟩
theorem I2_kp {σ μ τ ν : kS} (h : I2 σ μ) (h1 : τ.1 1 1 = σ.1 1 1) (h2 : τ.1 2 = σ.1 2) (h3 : ν.1 0 3 = μ.1 0 3) (h4 : ν.1 4 = μ.1 4) : I2 τ ν := by
  unfold I2; rw [h1, h2, h3, h4]; exact h
theorem I3_kp {σ μ τ ν : kS} (h : I3 σ μ) (h1 : ∀ k, 39 ≤ k → k ≤ 54 → τ.1 k = σ.1 k) (h2 : ν.1 8 = μ.1 8) (h3 : ν.1 9 = μ.1 9) : I3 τ ν := by
  intro k hk
  rw [h2, h3, h1 _ (by omega) (by omega)]
  rcases h k hk with q | ⟨q, B, b1, b2, b3, b4, b5⟩
  · exact Or.inl q
  · exact Or.inr ⟨q, B, b1, b2, b3, vx_kp b4 (fun k a b => h1 k (by omega) (by omega)), b5⟩
theorem I4_kp {A : Nat → Nat} {σ μ τ ν : kS} (h : I4 A σ μ) (h1 : ∀ k, 20 ≤ k → k ≤ 23 → τ.1 k = σ.1 k) (h2 : ν.1 0 12 = μ.1 0 12) (h3 : ν.1 10 = μ.1 10) : I4 A τ ν := by
  unfold I4
  rw [h1 20 (by omega) (by omega), h1 21 (by omega) (by omega), h1 22 (by omega) (by omega), h1 23 (by omega) (by omega), h2, h3]
  exact h
theorem I5_kp {σ μ τ ν : kS} (h : I5 σ μ) (h1 : ∀ k, 55 ≤ k → k ≤ 62 → τ.1 k = σ.1 k ∧ τ.2 k = σ.2 k) (h2 : ν.1 1 = μ.1 1) (h3 : ν.1 2 = μ.1 2) (h4 : ν.2 3 = μ.2 3) : I5 τ ν := by
  intro s hs
  rw [(h1 (55 + 2 * s) (by omega) (by omega)).1, (h1 (56 + 2 * s) (by omega) (by omega)).2, h2, h3, h4]
  exact h s hs
theorem Inv_kp {σ μ τ ν : kS} (h : Inv σ μ) (h1 : fr scX σ τ) (h2 : fr scM μ ν) (h3 : ν.1 0 3 = μ.1 0 3) (h4 : ν.1 0 12 = μ.1 0 12) : Inv τ ν := by
  obtain ⟨A, a, b, c, d, e⟩ := h
  have hx : ∀ k, k ∉ scX → τ.1 k = σ.1 k ∧ τ.2 k = σ.2 k := h1
  have hm : ∀ k, k ∉ scM → ν.1 k = μ.1 k ∧ ν.2 k = μ.2 k := h2
  exact ⟨A, I1_kp a (fun k hk => (hx k (by simp [scX]; omega)).1) (hm 5 (by simp [scM])).1, I2_kp b (by rw [(hx 1 (by simp [scX])).1]) (hx 2 (by simp [scX])).1 h3 (hm 4 (by simp [scM])).1,
    I3_kp c (fun k p q => (hx k (by simp [scX]; omega)).1) (hm 8 (by simp [scM])).1 (hm 9 (by simp [scM])).1, I4_kp d (fun k p q => (hx k (by simp [scX]; omega)).1) h4 (hm 10 (by simp [scM])).1,
    I5_kp e (fun k p q => hx k (by simp [scX]; omega)) (hm 1 (by simp [scM])).1 (hm 2 (by simp [scM])).1 (hm 3 (by simp [scM])).2⟩
/-- a call that leaves both as they are, but for what outlasts no call -/
theorem Inv_sc {σ μ τ ν : kS} {L : List Nat} (h : Inv σ μ) (h1 : fr scX σ τ) (h2 : fr L μ ν) (hL : ∀ k, k ∈ L → k ∈ scM ∧ k ≠ 0) : Inv τ ν := by
  have h0 : ν.1 0 = μ.1 0 := (h2 0 (fun q => (hL 0 q).2 rfl)).1
  exact Inv_kp h h1 (fr_mo h2 (fun k hk => (hL k hk).1)) (by rw [h0]) (by rw [h0])
/-! the plain answers -/
theorem I1_th {A : Nat → Nat} {σ μ : kS} (h : I1 A σ μ) : (0 < σ.1 3 1 ∧ 0 < σ.1 3 2) ↔ 0 < A 1 := by
  obtain ⟨hW, -, hx, -⟩ := h
  have hc := wfc hW
  rw [hx.1.2.1, hx.1.2.2.1, show (0 : Int32) = nI 0 from rfl, n_lt (by decide) (by omega), n_lt (by decide) (by omega)]
  have := hW.2.2.1
  omega
theorem I1_tm {A : Nat → Nat} {σ μ : kS} (h : I1 A σ μ) : 0 < μ.1 5 1 ↔ 0 < A 1 := by
  obtain ⟨hW, -, -, hm, -⟩ := h
  have hc := wfc hW
  rw [mr_n hm (by decide), show (0 : Int32) = nI 0 from rfl, n_lt (by decide) (by omega)]
theorem I1_f {A : Nat → Nat} {σ μ : kS} (h : I1 A σ μ) (a : Int32) : (wn a (σ.1 3 1) ↔ ∃ k, k < A 2 ∧ a = nI k) ∧ (iv a 0 (μ.1 5 2 - 1) ↔ ∃ k, k < A 2 ∧ a = nI k) := by
  obtain ⟨hW, -, hx, hm, -⟩ := h
  have hc := wfc hW
  rw [hx.1.2.1, mr_n hm (by decide)]
  exact ⟨n_wn (by omega), n_ivm (by omega)⟩
theorem I1_s {A : Nat → Nat} {σ μ : kS} (h : I1 A σ μ) (a : Int32) : (wn a (σ.1 3 2) ↔ ∃ k, k < A 3 ∧ a = nI k) ∧ (iv a 0 (μ.1 5 3 - 1) ↔ ∃ k, k < A 3 ∧ a = nI k) := by
  obtain ⟨hW, -, hx, hm, -⟩ := h
  have hc := wfc hW
  rw [hx.1.2.2.1, mr_n hm (by decide)]
  exact ⟨n_wn (by omega), n_ivm (by omega)⟩
theorem I1_h {A : Nat → Nat} {σ μ : kS} (h : I1 A σ μ) (a : Int32) : (wn a (σ.1 3 0) ↔ ∃ k, k < A 1 ∧ a = nI k) ∧ (iv a 0 (μ.1 5 1 - 1) ↔ ∃ k, k < A 1 ∧ a = nI k) := by
  obtain ⟨hW, -, hx, hm, -⟩ := h
  have hc := wfc hW
  rw [hx.1.1, mr_n hm (by decide)]
  exact ⟨n_wn (by omega), n_ivm (by omega)⟩
theorem c_wn (a : Int32) (n : Nat) (hn : n < 2 ^ 31) : (wn a (nI n) ↔ ∃ k, k < n ∧ a = nI k) := n_wn hn
theorem c_iv (a : Int32) (n : Nat) (hn : n < 2 ^ 31) : (iv a 0 (nI n) ↔ ∃ k, k < n + 1 ∧ a = nI k) := by
  rw [n_iv hn]
  constructor <;> rintro ⟨k, h, e⟩ <;> exact ⟨k, by omega, e⟩
theorem q_shape {a : Int32} {σ μ : kS} (h : Inv σ μ) : ∃ x τ ν, R_X8_shape a σ x τ ∧ R_X9_shape a μ x ν ∧ Inv τ ν := by
  obtain ⟨A, i1, i2⟩ := id h
  obtain ⟨e1, e2⟩ := I1_h i1 a
  have hc := wfc i1.1
  by_cases q : ∃ k, k < A 1 ∧ a = nI k
  · obtain ⟨k, hk, rfl⟩ := id q
    refine ⟨nI (A (4 + k)), σ, μ, t_X8_shape ⟨fun c => absurd (e1.mpr q) c, fun _ => ⟨n_in (by omega) (by decide), ?_, rfl⟩⟩, t_X9_shape ⟨fun c => absurd (e2.mpr q) c, fun _ => ?_⟩, h⟩
    · rw [n_N (by omega), i1.2.2.1.2.1 k hk]
    · rw [show (4 : Int32) = nI 4 from rfl, nI_add, n_N (by omega), mr_n i1.2.2.2.1 (show 4 + k < 33 by omega)]
      exact ⟨n_in (by omega) (by decide), rfl, rfl⟩
  · exact ⟨-1, σ, μ, t_X8_shape ⟨fun _ => ⟨rfl, rfl⟩, fun c => absurd (e1.mp c) q⟩, t_X9_shape ⟨fun _ => ⟨rfl, rfl⟩, fun c => absurd (e2.mp c) q⟩, h⟩
theorem q_feed {a : Int32} {σ μ : kS} (h : Inv σ μ) : ∃ x τ ν, R_X8_feed a σ x τ ∧ R_X9_feed a μ x ν ∧ Inv τ ν := by
  obtain ⟨A, i1, ⟨n, hn, t1, t2, t3⟩, i3, i4, i5⟩ := id h
  have e1 := c_wn a 256 (by decide)
  have e2 := c_iv a 255 (by decide)
  by_cases q : ∃ k, k < 256 ∧ a = nI k
  · obtain ⟨b, hb, rfl⟩ := id q
    by_cases hf : n = 130
    · refine ⟨-3, σ, μ, t_X8_feed ⟨fun _ => ⟨fun _ => ⟨rfl, rfl⟩, fun c => absurd ?_ c⟩, fun c => absurd (e1.mpr q) c⟩, t_X9_feed ⟨fun _ => ⟨fun c => absurd ?_ c, fun _ => ⟨rfl, rfl⟩⟩, fun c => absurd (e2.mpr q) c⟩, h⟩
      · rw [t1, hf]; exact Int32.le_refl _
      · rw [t2, hf]; rfl
    · have hl : ¬ (130 : Int32) ≤ σ.1 1 1 := by rw [t1]; exact fun c => absurd ((n_le (a := 130) (by decide) (by omega)).mp c) (by omega)
      have hm : ¬ μ.1 0 3 = 130 := by rw [t2]; exact fun c => hf ((nI_eq (b := 130) (by omega) (by decide)).mp c)
      refine ⟨nI (n + 1), k_si (k_si σ 2 n (nI b)) 1 1 (nI n + 1), k_si (k_si μ 4 n (nI b)) 0 3 (nI n + 1), t_X8_feed ⟨fun _ => ⟨fun c => absurd c hl, fun _ => ⟨nI (n + 1), _, t_X6_put ⟨fun c => absurd c hl, fun _ => ?_⟩, rfl, rfl⟩⟩, fun c => absurd (e1.mpr q) c⟩, t_X9_feed ⟨fun _ => ⟨fun _ => ?_, fun c => absurd c hm⟩, fun c => absurd (e2.mpr q) c⟩, ?_⟩
      · rw [t1, n_N (by omega), n_inc]; exact ⟨n_in (by omega) (by decide), rfl, rfl⟩
      · rw [t2, n_N (by omega), n_inc]; exact ⟨n_in (by omega) (by decide), rfl, rfl⟩
      · refine ⟨A, I1_kp i1 (fun k hk => ?_) ?_, ⟨n + 1, by omega, ?_, ?_, fun i hi => ?_⟩, I3_kp i3 (fun k p q => ?_) ?_ ?_, I4_kp i4 (fun k p q => ?_) ?_ ?_, I5_kp i5 (fun k p q => ⟨?_, rfl⟩) ?_ ?_ rfl⟩
        · rw [k_si_o (by omega), k_si_o (by omega)]
        · rw [k_si_o (by decide), k_si_o (by decide)]
        · rw [k_si_at, n_inc]
        · rw [k_si_at, n_inc]
        · rw [k_si_o (show 2 ≠ 1 by decide), k_si_o (show 4 ≠ 0 by decide), k_si_s, k_si_s, upd, upd]
          by_cases e : i = n
          · rw [if_pos e, if_pos e]; exact ⟨b, hb, rfl, rfl⟩
          · rw [if_neg e, if_neg e]; exact t3 i (by omega)
        · rw [k_si_o (by omega), k_si_o (by omega)]
        · rw [k_si_o (by decide), k_si_o (by decide)]
        · rw [k_si_o (by decide), k_si_o (by decide)]
        · rw [k_si_o (by omega), k_si_o (by omega)]
        · rw [k_si_s, upd, if_neg (by decide), k_si_o (by decide)]
        · rw [k_si_o (by decide), k_si_o (by decide)]
        · rw [k_si_o (by omega), k_si_o (by omega)]
        · rw [k_si_o (by decide), k_si_o (by decide)]
        · rw [k_si_o (by decide), k_si_o (by decide)]
  · exact ⟨-1, σ, μ, t_X8_feed ⟨fun c => absurd (e1.mp c) q, fun _ => ⟨rfl, rfl⟩⟩, t_X9_feed ⟨fun c => absurd (e2.mp c) q, fun _ => ⟨rfl, rfl⟩⟩, h⟩
