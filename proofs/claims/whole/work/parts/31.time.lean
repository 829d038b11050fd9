/-! hours foretold -/
theorem cp0 (σ : kS) (a b n c i : Nat) : (k_cp σ a b 0 0 n).1 c i = if c = b then (if i < n then σ.1 a i else σ.1 b i) else σ.1 c i := by
  simp only [k_cp, va_cpy, Nat.zero_le, true_and, Nat.zero_add, Nat.sub_zero]
def vl8 (v : Nat) : List Nat := [v, v + 1, v + 2, v + 3, v + 4, v + 5, v + 6, v + 7]
theorem x_become {v w : Nat} {σ : kS} {B : Nat → Nat} (hv : k_vly v = true) (hw : k_vly w = true) (hne : v ≠ w) (h : vx w σ B) (hW : WF B) : ∃ τ, R_X7_become v w σ τ ∧ vx v τ B ∧ fr (vl8 v) σ τ := by
  have hc := wfc hW
  refine ⟨_, t_X7_become hv hw rfl, ?_, ?_⟩
  · have key : ∀ τ : kS, (∀ i, i < 4 → τ.1 v i = σ.1 w i) → (∀ i, i < 4 → τ.1 (v + 1) i = σ.1 (w + 1) i) → (∀ i, i < 5 → τ.1 (v + 2) i = σ.1 (w + 2) i ∧ τ.1 (v + 3) i = σ.1 (w + 3) i ∧ τ.1 (v + 4) i = σ.1 (w + 4) i ∧ τ.1 (v + 5) i = σ.1 (w + 5) i ∧ τ.1 (v + 6) i = σ.1 (w + 6) i ∧ τ.1 (v + 7) i = σ.1 (w + 7) i) → vx v τ B := by
      intro τ h0 h1 h2
      refine ⟨⟨?_, ?_, ?_, ?_⟩, fun i hi => ?_, fun i hi => ?_, fun i hi => ?_⟩
      · rw [h0 0 (by decide)]; exact h.1.1
      · rw [h0 1 (by decide)]; exact h.1.2.1
      · rw [h0 2 (by decide)]; exact h.1.2.2.1
      · rw [h0 3 (by decide)]; exact h.1.2.2.2
      · rw [h1 i (by omega)]; exact h.2.1 i hi
      · rw [(h2 i (by omega)).1]; exact h.2.2.1 i hi
      · obtain ⟨-, a3, a4, a5, a6, a7⟩ := h2 i (by omega)
        rw [a3, a4, a5, a6, a7]; exact h.2.2.2 i hi
    refine key _ (fun i hi => ?_) (fun i hi => ?_) (fun i hi => ?_)
    · have hi4 : i = 0 ∨ i = 1 ∨ i = 2 ∨ i = 3 := by omega
      rcases vl_c hv with rfl | rfl | rfl | rfl <;> rcases vl_c hw with rfl | rfl | rfl | rfl <;> first | exact absurd rfl hne | (rcases hi4 with rfl | rfl | rfl | rfl <;> simp [cp0, s_i])
    · rcases vl_c hv with rfl | rfl | rfl | rfl <;> rcases vl_c hw with rfl | rfl | rfl | rfl <;> first | exact absurd rfl hne | simp [cp0, s_i, hi]
    · rcases vl_c hv with rfl | rfl | rfl | rfl <;> rcases vl_c hw with rfl | rfl | rfl | rfl <;> first | exact absurd rfl hne | simp [cp0, s_i, hi]
  · have m0 : v ∈ vl8 v := by simp [vl8]
    have m : ∀ j, 1 ≤ j → j ≤ 7 → v + j ∈ vl8 v := fun j a b => by simp [vl8]; omega
    exact fr_tr (fr_tr (fr_tr (fr_tr (fr_tr (fr_tr (fr_tr (fr_tr (fr_tr (fr_tr (fr_si m0) (fr_si m0)) (fr_si m0)) (fr_si m0)) (fr_cp (m 1 (by decide) (by decide)))) (fr_cp (m 2 (by decide) (by decide)))) (fr_cp (m 3 (by decide) (by decide)))) (fr_cp (m 4 (by decide) (by decide)))) (fr_cp (m 5 (by decide) (by decide)))) (fr_cp (m 6 (by decide) (by decide)))) (fr_cp (m 7 (by decide) (by decide)))
/-- the same shapes: the same chords -/
def sh (A B : Nat → Nat) : Prop := A 1 = B 1 ∧ ∀ i, i < A 1 → A (4 + i) = B (4 + i)
theorem crd_sh {A B : Nat → Nat} (h : sh A B) {c : Nat} (hc : c < 12 * A 1) : crd A c = crd B c := by
  unfold crd; rw [h.2 _ (by omega)]
theorem csc_sh {A B : Nat → Nat} (h : sh A B) (n : Nat) : ∀ m, m ≤ 12 * A 1 → csc A n m = csc B n m
  | 0, _ => rfl
  | m + 1, hm => by
    rw [csc_s, csc_s, csc_sh h n m (by omega)]
    unfold cst
    rw [crd_sh h (by omega)]
theorem chd_sh {A B : Nat → Nat} (h : sh A B) (n : Nat) : chd A n = chd B n := by
  unfold chd; rw [← h.1, csc_sh h n _ (Nat.le_refl _)]
theorem CT_sh {A B : Nat → Nat} {σ : kS} (h : sh A B) (hT : CT σ A) : CT σ B :=
  ⟨fun n hn => by rw [← chd_sh h]; exact hT.1 n hn, fun c hc => by rw [← h.1] at hc; rw [← crd_sh h hc]; exact hT.2 c hc⟩
theorem sh_hr {A : Nat → Nat} (hW : WF A) : sh A (hrA A) := by
  have h1 := (wfc hW).1
  exact ⟨(hrA_o (by decide) (by omega)).symm, fun i hi => (hrA_o (by omega) (by omega)).symm⟩
theorem sh_tr {A B C : Nat → Nat} (h : sh A B) (h2 : sh B C) : sh A C := ⟨h.1.trans h2.1, fun i hi => (h.2 i hi).trans (h2.2 i (by rw [← h.1]; exact hi))⟩
theorem sh_rf {A : Nat → Nat} : sh A A := ⟨rfl, fun _ _ => rfl⟩
def itA (A : Nat → Nat) : Nat → Nat → Nat
  | 0 => A
  | i + 1 => hrA (itA A i)
theorem itA_ok {A : Nat → Nat} (hW : WF A) (h0 : A 0 ≤ 9999) : ∀ i, i ≤ 100 → WF (itA A i) ∧ itA A i 0 = A 0 + i ∧ sh A (itA A i)
  | 0, _ => ⟨hW, rfl, sh_rf⟩
  | i + 1, hi => by
    obtain ⟨a, b, c⟩ := itA_ok hW h0 i (by omega)
    refine ⟨hrA_wf a (by omega), ?_, sh_tr c (sh_hr a)⟩
    show hrA (itA A i) 0 = _
    unfold hrA; rw [if_pos rfl, b]; omega
def fuI (A : Nat → Nat) (i : Nat) : Int32 := match i with
  | 0 => 0
  | i + 1 => nI (fuA (itA A i))
theorem sc_h : ∀ k, k ∈ [28, 11, 11 + 7] → k ∈ scX := by decide
theorem sc_b : ∀ k, k ∈ vl8 11 → k ∈ scX := by decide
theorem m_begin {μ : kS} {A : Nat → Nat} (h : mr 5 μ A) : R_X9_begin μ (k_cp μ 5 7 0 0 38) ∧ mr 7 (k_cp μ 5 7 0 0 38) A ∧ fr [7] μ (k_cp μ 5 7 0 0 38) := by
  refine ⟨t_X9_begin ⟨_, m_bring (n0 := 38) (n2 := 38) (i := 0) (j := 0) (n := 38) rfl rfl (by decide) (by decide) (by decide) (by decide) (Or.inl (by decide)), rfl⟩, fun i hi => ?_, fr_cp (by simp)⟩
  rw [cp0, if_pos rfl, if_pos hi]
  exact h i hi
theorem q_ahead {a b : Int32} {σ μ : kS} (h : Inv σ μ) : ∃ x τ ν, R_X8_ahead a b σ x τ ∧ R_X9_ahead a b μ x ν ∧ Inv τ ν := by
  obtain ⟨A, i1, -⟩ := id h
  have eb := c_wn b 2 (by decide)
  have fb := c_iv b 1 (by decide)
  have hc := wfc i1.1
  by_cases qb : ∃ k, k < 2 ∧ b = nI k
  · obtain ⟨w, hw, rfl⟩ := id qb
    have e1 : (1 : Int32) - nI w = nI (1 - w) := by rw [show (1 : Int32) = nI 1 from rfl, pk_sub (by omega)]
    by_cases qa : ∃ n, 1 - w ≤ n ∧ n ≤ 60 ∧ a = nI n
    · obtain ⟨n, hn1, hn, rfl⟩ := id qa
      have ha1 : ¬ nI n < 1 - nI w := by rw [e1]; exact nI_nlt hn1 (by omega)
      have ha2 : nI n ≤ 60 := nI_le (b := 60) hn (by decide)
      have ha3 : iv (nI n) (1 - nI w) 60 := by
        unfold iv
        rw [e1, n_T (by omega), n_T (by omega), show (60 : Int32).toInt = 60 from rfl]
        omega
      by_cases qt : 0 < A 1
      · have hT := i1.2.2.2.2 qt
        have h2 : ∀ k, k < 2 ^ 31 → (nI w = nI k ↔ w = k) := fun k hk => nI_eq (by omega) hk
        have kx : ∀ i, i ≤ n → ∀ σ', fr scX σ σ' → vx 11 σ' (itA A i) → ∃ τ, E_X8_ahead_52 (nI n) (nI w) (fuI A i) (nI i) σ' (if w = 0 then fuI A n else nI (trd (itA A n))) τ ∧ fr scX σ τ := by
          refine loop_up n (fun σ' g gx => ?_) (fun i hi ih σ' g gx => ?_)
          · refine ⟨σ', t_X8_ahead_52 ⟨fun _ => ⟨fun c => ⟨_, _, x_tired (v := 11) rfl gx (itA_ok i1.1 i1.2.1 n (by omega)).1, ?_, rfl⟩, fun c => ⟨?_, rfl⟩⟩, fun c => absurd (Int32.le_refl _) c⟩, g⟩
            · rw [if_neg (fun z => c (by rw [z]; rfl))]
            · rw [if_pos ((h2 0 (by decide)).mp c)]
          · obtain ⟨w1, w2, w3⟩ := itA_ok i1.1 i1.2.1 i (by omega)
            have hT1 : CT σ' (itA A i) := CT_sh w3 (CT_o hT (g 25 (by decide)).1 (g 26 (by decide)).1)
            obtain ⟨σ2, p1, p2, p3⟩ := x_passHour (v := 11) rfl gx hT1 w1 (by have := i1.2.1; omega)
            obtain ⟨τ, j1, j2⟩ := ih σ2 (fr_tr g (fr_mo p3 sc_h)) p2
            refine ⟨τ, t_X8_ahead_52 ⟨fun c => absurd ((n_le (by omega) (by omega)).mp c) (by omega), fun _ => ⟨_, _, p1, ?_⟩⟩, j2⟩
            rw [n_inc]; exact j1
        have km : ∀ i, i ≤ n → ∀ μ', fr [7, 11] μ μ' → mr 7 μ' (itA A i) → ∃ ν, E_X9_ahead_42 (nI n) (nI w) (fuI A i) (nI i) μ' (if w = 0 then fuI A n else nI (trd (itA A n))) ν ∧ fr [7, 11] μ ν := by
          refine loop_up n (fun μ' g gx => ?_) (fun i hi ih μ' g gx => ?_)
          · refine ⟨μ', t_X9_ahead_42 ⟨fun _ => ⟨fun c => ⟨_, _, m_tiredOf (r := 7) rfl gx (itA_ok i1.1 i1.2.1 n (by omega)).1, ?_, rfl⟩, fun c => ⟨?_, rfl⟩⟩, fun c => absurd (Int32.le_refl _) c⟩, g⟩
            · rw [if_neg (fun z => c (by rw [z]; rfl))]
            · rw [if_pos ((h2 0 (by decide)).mp c)]
          · obtain ⟨w1, w2, w3⟩ := itA_ok i1.1 i1.2.1 i (by omega)
            obtain ⟨μ2, p1, p2, p3⟩ := m_hourIn (r := 7) rfl (by decide) gx w1 (by have := i1.2.1; omega)
            obtain ⟨ν, j1, j2⟩ := ih μ2 (fr_tr g (fr_mo p3 (by decide))) p2
            refine ⟨ν, t_X9_ahead_42 ⟨fun c => absurd ((n_le (by omega) (by omega)).mp c) (by omega), fun _ => ⟨_, _, p1, ?_⟩⟩, j2⟩
            rw [n_inc]; exact j1
        obtain ⟨σ1, b1, b2, b3⟩ := x_become (v := 11) (w := 3) rfl rfl (by decide) i1.2.2.1 i1.1
        obtain ⟨g1, g2, g3⟩ := m_begin i1.2.2.2.1
        obtain ⟨τ, x1, x2⟩ := kx 0 (Nat.zero_le _) σ1 (fr_mo b3 sc_b) b2
        obtain ⟨ν, m1, m2⟩ := km 0 (Nat.zero_le _) _ (fr_mo g3 (by decide)) g2
        exact ⟨_, τ, ν, t_X8_ahead ⟨fun c => absurd (eb.mpr qb) c, fun _ => ⟨fun c => absurd c ha1, fun _ => ⟨fun _ => ⟨fun _ => ⟨_, b1, x1⟩, fun c => absurd ((I1_th i1).mpr qt) c⟩, fun c => absurd ha2 c⟩⟩⟩, t_X9_ahead ⟨fun c => absurd (fb.mpr qb) c, fun _ => ⟨fun _ => ⟨fun _ => ⟨_, g1, m1⟩, fun c => absurd ((I1_tm i1).mpr qt) c⟩, fun c => absurd ha3 c⟩⟩, Inv_sc h x2 m2 (by decide)⟩
      · exact ⟨-2, σ, μ, t_X8_ahead ⟨fun c => absurd (eb.mpr qb) c, fun _ => ⟨fun c => absurd c ha1, fun _ => ⟨fun _ => ⟨fun c => absurd ((I1_th i1).mp c) qt, fun _ => ⟨rfl, rfl⟩⟩, fun c => absurd ha2 c⟩⟩⟩, t_X9_ahead ⟨fun c => absurd (fb.mpr qb) c, fun _ => ⟨fun _ => ⟨fun c => absurd ((I1_tm i1).mp c) qt, fun _ => ⟨rfl, rfl⟩⟩, fun c => absurd ha3 c⟩⟩, h⟩
    · have ha3 : ¬ iv a (1 - nI w) 60 := by
        intro z
        unfold iv at z
        rw [e1, n_T (by omega), show (60 : Int32).toInt = 60 from rfl] at z
        refine qa ⟨a.toInt.toNat, by omega, by omega, ?_⟩
        apply Int32.toInt_inj.mp
        rw [n_T (by omega)]; omega
      have ha4 : ¬ a < 1 - nI w → ¬ a ≤ 60 := by
        intro z1 z2
        refine ha3 ⟨?_, ?_⟩
        · rw [lt_I] at z1; omega
        · rw [le_I] at z2; exact z2
      exact ⟨-1, σ, μ, t_X8_ahead ⟨fun c => absurd (eb.mpr qb) c, fun _ => ⟨fun _ => ⟨rfl, rfl⟩, fun c => ⟨fun c2 => absurd c2 (ha4 c), fun _ => ⟨rfl, rfl⟩⟩⟩⟩, t_X9_ahead ⟨fun c => absurd (fb.mpr qb) c, fun _ => ⟨fun c => absurd c ha3, fun _ => ⟨rfl, rfl⟩⟩⟩, h⟩
  · exact ⟨-1, σ, μ, t_X8_ahead ⟨fun _ => ⟨rfl, rfl⟩, fun c => absurd (eb.mp c) qb⟩, t_X9_ahead ⟨fun _ => ⟨rfl, rfl⟩, fun c => absurd (fb.mp c) qb⟩, h⟩
/-! a pitch is turned -/
theorem xp0 : ∀ a, a < 64 → ∀ b, b < 64 → ∀ p, p < 12 → (64 * a + b) ^^^ 2 ^ p = if (64 * a + b).testBit p then 64 * a + b - 2 ^ p else 64 * a + b + 2 ^ p := by decide +kernel
theorem xp {s p : Nat} (hs : s < 4096) (hp : p < 12) : s ^^^ 2 ^ p = if s.testBit p then s - 2 ^ p else s + 2 ^ p := by
  have := xp0 (s / 64) (by omega) (s % 64) (by omega) p hp
  rwa [show 64 * (s / 64) + s % 64 = s by omega] at this
theorem xp_lt {s p : Nat} (hs : s < 4096) (hp : p < 12) : s ^^^ 2 ^ p < 4096 := xor_lt (n := 12) hs (p_lt hp)
def tuA (A : Nat → Nat) (f p : Nat) (j : Nat) : Nat := if j = 8 + f then A (8 + f) ^^^ 2 ^ p else A j
theorem x_turn {v f p : Nat} {σ : kS} {A : Nat → Nat} (hv : k_vly v = true) (h : vx v σ A) (hW : WF A) (hf : f < A 2) (hp : p < 12) : R_X7_turnPitch v (nI f) (nI p) σ (k_si σ (v + 2) f (nI (A (8 + f) ^^^ 2 ^ p))) := by
  have hc := wfc hW
  refine t_X7_turnPitch hv ⟨n_in (by omega) (by decide), n_in (by omega) (by decide), ?_⟩
  rw [n_N (by omega), h.2.2.1 f hf, n_one p (by omega), n_xor]
theorem vx_turn {v f p : Nat} {σ : kS} {A : Nat → Nat} (h : vx v σ A) (hW : WF A) (hf : f < A 2) : vx v (k_si σ (v + 2) f (nI (A (8 + f) ^^^ 2 ^ p))) (tuA A f p) := by
  have hc := wfc hW
  have e : ∀ j, j ≠ 8 + f → tuA A f p j = A j := fun j hj => by unfold tuA; rw [if_neg hj]
  unfold vx
  rw [e 0 (by omega), e 1 (by omega), e 2 (by omega), e 3 (by omega), k_si_o (show v ≠ v + 2 by omega), k_si_o (show v + 1 ≠ v + 2 by omega), k_si_o (show v + 3 ≠ v + 2 by omega), k_si_o (show v + 4 ≠ v + 2 by omega), k_si_o (show v + 5 ≠ v + 2 by omega), k_si_o (show v + 6 ≠ v + 2 by omega), k_si_o (show v + 7 ≠ v + 2 by omega)]
  refine ⟨h.1, fun i hi => ?_, fun i hi => ?_, fun i hi => ?_⟩
  · rw [e _ (by omega)]; exact h.2.1 i hi
  · rw [k_si_s, upd]
    by_cases q : i = f
    · rw [if_pos q, q]; unfold tuA; rw [if_pos rfl]
    · rw [if_neg q, e _ (by omega)]; exact h.2.2.1 i hi
  · rw [e _ (by omega), e _ (by omega), e _ (by omega), e _ (by omega), e _ (by omega)]; exact h.2.2.2 i hi
theorem tu_wf {A : Nat → Nat} {f p : Nat} (hW : WF A) (hf : f < A 2) (hp : p < 12) : WF (tuA A f p) := by
  have hc := wfc hW
  have e : ∀ j, j ≠ 8 + f → tuA A f p j = A j := fun j hj => by unfold tuA; rw [if_neg hj]
  unfold WF
  rw [e 0 (by omega), e 1 (by omega), e 2 (by omega), e 3 (by omega)]
  refine ⟨hW.1, hW.2.1, hW.2.2.1, fun i hi => ?_, fun i hi => ?_, fun i hi => ?_⟩
  · rw [e _ (by omega)]; exact hW.2.2.2.1 i hi
  · by_cases q : i = f
    · rw [q]; unfold tuA; rw [if_pos rfl]; exact xp_lt (hW.2.2.2.2.1 f hf) hp
    · rw [e _ (by omega)]; exact hW.2.2.2.2.1 i hi
  · rw [e _ (by omega), e _ (by omega), e _ (by omega), e _ (by omega), e _ (by omega)]; exact hW.2.2.2.2.2 i hi
theorem tu_sh {A : Nat → Nat} {f p : Nat} (hW : WF A) : sh A (tuA A f p) := by
  have hc := wfc hW
  exact ⟨by unfold tuA; rw [if_neg (by omega)], fun i hi => by unfold tuA; rw [if_neg (by omega)]⟩
theorem m_turn {r f p : Nat} {μ : kS} {A : Nat → Nat} (hr : k_is SM r 1 38 = true) (h : mr r μ A) (hW : WF A) (hf : f < A 2) (hp : p < 12) : R_X9_turn r (nI f) (nI p) μ (k_si μ r (8 + f) (nI (A (8 + f) ^^^ 2 ^ p))) := by
  have hc := wfc hW
  have hs := hW.2.2.2.2.1 f hf
  refine t_X9_turn hr ?_
  rw [show (8 : Int32) = nI 8 from rfl, nI_add, n_N (by omega), mr_n h (show 8 + f < 33 by omega), n_hs (by omega) (by omega), n_one p (by omega), nI_add, xp hs hp]
  refine ⟨n_in (by omega) (by decide), fun q => ⟨n_in (by omega) (by decide), n_in (by omega) (by decide), by rw [if_neg q]⟩, fun q => ⟨n_in (by omega) (by decide), n_in (by omega) (by decide), ?_⟩⟩
  rw [if_pos q, pk_sub (Nat.ge_two_pow_of_testBit q)]
theorem mr_turn {r f p : Nat} {μ : kS} {A : Nat → Nat} (h : mr r μ A) (hW : WF A) (hf : f < A 2) : mr r (k_si μ r (8 + f) (nI (A (8 + f) ^^^ 2 ^ p))) (tuA A f p) := by
  have hc := wfc hW
  intro i hi
  rw [k_si_s, upd]
  by_cases q : i = 8 + f
  · rw [if_pos q, q]; unfold vI tuA; rw [if_neg (by omega), if_pos rfl]
  · rw [if_neg q, h i hi]; unfold vI tuA; rw [if_neg q]
/-! one is sent -/
def seA (A : Nat → Nat) (p g : Nat) (j : Nat) : Nat := if j = 33 + p then g else A j
theorem vx_send {v p g : Nat} {σ : kS} {A : Nat → Nat} (h : vx v σ A) (hW : WF A) (hp : p < A 3) : vx v (k_si σ (v + 6) p (pI g)) (seA A p g) := by
  have hc := wfc hW
  have e : ∀ j, j ≠ 33 + p → seA A p g j = A j := fun j hj => by unfold seA; rw [if_neg hj]
  unfold vx
  rw [e 0 (by omega), e 1 (by omega), e 2 (by omega), e 3 (by omega), k_si_o (show v ≠ v + 6 by omega), k_si_o (show v + 1 ≠ v + 6 by omega), k_si_o (show v + 2 ≠ v + 6 by omega), k_si_o (show v + 3 ≠ v + 6 by omega), k_si_o (show v + 4 ≠ v + 6 by omega), k_si_o (show v + 5 ≠ v + 6 by omega), k_si_o (show v + 7 ≠ v + 6 by omega)]
  refine ⟨h.1, fun i hi => ?_, fun i hi => ?_, fun i hi => ?_⟩
  · rw [e _ (by omega)]; exact h.2.1 i hi
  · rw [e _ (by omega)]; exact h.2.2.1 i hi
  · rw [e _ (by omega), e _ (by omega), e _ (by omega), e _ (by omega), k_si_s, upd]
    obtain ⟨a, b, c, d, f⟩ := h.2.2.2 i hi
    refine ⟨a, b, c, d, ?_⟩
    by_cases q : i = p
    · rw [if_pos q, q]; unfold seA; rw [if_pos rfl]
    · rw [if_neg q, e _ (by omega)]; exact f
theorem se_wf {A : Nat → Nat} {p g : Nat} (hW : WF A) (hp : p < A 3) (hg : g < A 2 ∨ g = 9) : WF (seA A p g) := by
  have hc := wfc hW
  have e : ∀ j, j ≠ 33 + p → seA A p g j = A j := fun j hj => by unfold seA; rw [if_neg hj]
  unfold WF
  rw [e 0 (by omega), e 1 (by omega), e 2 (by omega), e 3 (by omega)]
  refine ⟨hW.1, hW.2.1, hW.2.2.1, fun i hi => ?_, fun i hi => ?_, fun i hi => ?_⟩
  · rw [e _ (by omega)]; exact hW.2.2.2.1 i hi
  · rw [e _ (by omega)]; exact hW.2.2.2.2.1 i hi
  · rw [e _ (by omega), e _ (by omega), e _ (by omega), e _ (by omega)]
    obtain ⟨a, b, c, d⟩ := hW.2.2.2.2.2 i hi
    refine ⟨a, b, c, ?_⟩
    by_cases q : i = p
    · rw [q]; unfold seA; rw [if_pos rfl]; exact hg
    · rw [e _ (by omega)]; exact d
theorem se_sh {A : Nat → Nat} {p g : Nat} (hW : WF A) : sh A (seA A p g) := by
  have hc := wfc hW
  exact ⟨by unfold seA; rw [if_neg (by omega)], fun i hi => by unfold seA; rw [if_neg (by omega)]⟩
theorem mr_send {r p g : Nat} {μ : kS} {A : Nat → Nat} (h : mr r μ A) (hg : g < 9) : mr r (k_si μ r (33 + p) (nI g)) (seA A p g) := by
  intro i hi
  rw [k_si_s, upd]
  by_cases q : i = 33 + p
  · rw [if_pos q, q]; unfold vI seA; rw [if_pos rfl, if_neg (by omega)]
  · rw [if_neg q, h i hi]; unfold vI seA; rw [if_neg q]
theorem mr_home {r p : Nat} {μ : kS} {A : Nat → Nat} (h : mr r μ A) : mr r (k_si μ r (33 + p) (-4)) (seA A p 9) := by
  intro i hi
  rw [k_si_s, upd]
  by_cases q : i = 33 + p
  · rw [if_pos q, q]; unfold vI seA; rw [if_pos rfl, if_pos ⟨by omega, rfl⟩]
  · rw [if_neg q, h i hi]; unfold vI seA; rw [if_neg q]
