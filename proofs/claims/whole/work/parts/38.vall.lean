/-! the valley is read -/
theorem p_shapes {n p : Nat} {σ μ : kS} {D : Nat → Nat} (ht : TP n p σ μ) (hd : PD D σ μ) (h1 : D 1 = 0) (hp : D 2 = 0 ∧ D 3 = 0) :
      (∃ σ' μ', R_X6_readShapes σ 0 σ' ∧ E_X9_isRead_39 1 μ 0 μ' ∧ FL n σ σ' μ μ') ∨
      (∃ σ' μ' p' D', R_X6_readShapes σ 1 σ' ∧ (∀ y ν, E_X9_isRead_39 0 μ' y ν → E_X9_isRead_39 1 μ y ν) ∧ SW σ σ' μ μ' ∧ TP n p' σ' μ' ∧ PD D' σ' μ' ∧ 0 < D' 1 ∧ D' 2 = 0 ∧ D' 3 = 0) := by
  have st : ∀ y τ, E_X6_readShapes_22 (nI 0) σ y τ → R_X6_readShapes σ y τ := fun y τ z => t_X6_readShapes (t_X6_readShapes_2 ⟨fun c => absurd c (by decide), fun _ => ⟨fun _ => z, fun c => absurd (Int32.le_refl _) c⟩⟩)
  have key := p_list (n := n) (M := 4) (c := 1) (by decide) (E22 := E_X6_readShapes_22) (E2 := E_X6_readShapes_2) (Rd := E_X9_isRead_39) (It := fun _ μ x s => R_X9_isShape μ x s) (Pre := fun D => D 2 = 0 ∧ D 3 = 0)
    (fun D D' h g => ⟨(g 2 (by decide) (by decide)).trans h.1, (g 3 (by decide) (by decide)).trans h.2⟩) (by decide)
    (fun σ => t_X6_readShapes_2 ⟨fun _ => ⟨rfl, rfl⟩, fun c => absurd (Int32.le_refl _) c⟩)
    (fun i σ x s y τ h0 hi r f g => t_X6_readShapes_2 ⟨fun c => absurd c (nI_ge (b := 4) hi (by decide)), fun _ => ⟨fun c => absurd c (nI_nle h0 (by omega)), fun _ => ⟨x, s, r, f, g⟩⟩⟩)
    (fun μ s r => t_X9_isRead_39 ⟨fun c => absurd c (by decide), fun _ => ⟨0, s, r, fun c => absurd rfl c, fun _ => ⟨rfl, rfl⟩⟩⟩)
    (fun μ s y ν r f g => t_X9_isRead_39 ⟨fun c => absurd c (by decide), fun _ => ⟨1, s, r, fun _ => ⟨f, g⟩, fun c => absurd c (by decide)⟩⟩)
    (fun i p σ μ D hi t d e _ => i_shape hi t d e) 3 0 rfl p σ μ D ht hd h1 hp
  rcases key with ⟨σ', μ', a, b, c⟩ | ⟨σ', μ', p', D', a, b, c, d, e, f, g⟩
  · exact Or.inl ⟨σ', μ', st _ _ a, b, c⟩
  · exact Or.inr ⟨σ', μ', p', D', st _ _ a, b, c, d, e, f, (g 2 (by decide) (by decide)).trans hp.1, (g 3 (by decide) (by decide)).trans hp.2⟩
theorem p_fields {n p : Nat} {σ μ : kS} {D : Nat → Nat} (ht : TP n p σ μ) (hd : PD D σ μ) (h1 : D 2 = 0) (hp : 0 < D 1 ∧ D 3 = 0) :
      (∃ σ' μ', R_X6_readFields σ 0 σ' ∧ E_X9_isRead_93 1 μ 0 μ' ∧ FL n σ σ' μ μ') ∨
      (∃ σ' μ' p' D', R_X6_readFields σ 1 σ' ∧ (∀ y ν, E_X9_isRead_93 0 μ' y ν → E_X9_isRead_93 1 μ y ν) ∧ SW σ σ' μ μ' ∧ TP n p' σ' μ' ∧ PD D' σ' μ' ∧ 0 < D' 2 ∧ 0 < D' 1 ∧ D' 3 = 0) := by
  have st : ∀ y τ, E_X6_readFields_22 (nI 0) σ y τ → R_X6_readFields σ y τ := fun y τ z => t_X6_readFields (t_X6_readFields_2 ⟨fun c => absurd c (by decide), fun _ => ⟨fun _ => z, fun c => absurd (Int32.le_refl _) c⟩⟩)
  have key := p_list (n := n) (M := 5) (c := 2) (by decide) (E22 := E_X6_readFields_22) (E2 := E_X6_readFields_2) (Rd := E_X9_isRead_93) (It := fun _ μ x s => R_X9_isFieldItem μ x s) (Pre := fun D => 0 < D 1 ∧ D 3 = 0)
    (fun D D' h g => ⟨by rw [g 1 (by decide) (by decide)]; exact h.1, (g 3 (by decide) (by decide)).trans h.2⟩) (by decide)
    (fun σ => t_X6_readFields_2 ⟨fun _ => ⟨rfl, rfl⟩, fun c => absurd (Int32.le_refl _) c⟩)
    (fun i σ x s y τ h0 hi r f g => t_X6_readFields_2 ⟨fun c => absurd c (nI_ge (b := 5) hi (by decide)), fun _ => ⟨fun c => absurd c (nI_nle h0 (by omega)), fun _ => ⟨x, s, r, f, g⟩⟩⟩)
    (fun μ s r => t_X9_isRead_93 ⟨fun c => absurd c (by decide), fun _ => ⟨0, s, r, fun c => absurd rfl c, fun _ => ⟨rfl, rfl⟩⟩⟩)
    (fun μ s y ν r f g => t_X9_isRead_93 ⟨fun c => absurd c (by decide), fun _ => ⟨1, s, r, fun _ => ⟨f, g⟩, fun c => absurd c (by decide)⟩⟩)
    (fun i p σ μ D hi t d e q => i_field hi t d e q.2) 4 0 rfl p σ μ D ht hd h1 hp
  rcases key with ⟨σ', μ', a, b, c⟩ | ⟨σ', μ', p', D', a, b, c, d, e, f, g⟩
  · exact Or.inl ⟨σ', μ', st _ _ a, b, c⟩
  · exact Or.inr ⟨σ', μ', p', D', st _ _ a, b, c, d, e, f, by rw [g 1 (by decide) (by decide)]; exact hp.1, (g 3 (by decide) (by decide)).trans hp.2⟩
theorem p_singers {n p : Nat} {σ μ : kS} {D : Nat → Nat} (ht : TP n p σ μ) (hd : PD D σ μ) (h1 : D 3 = 0) (hp : 0 < D 1 ∧ 0 < D 2) :
      (∃ σ' μ', R_X6_readSingers σ 0 σ' ∧ E_X9_isRead_147 1 μ 0 μ' ∧ FL n σ σ' μ μ') ∨
      (∃ σ' μ' p' D', R_X6_readSingers σ 1 σ' ∧ (∀ y ν, E_X9_isRead_147 0 μ' y ν → E_X9_isRead_147 1 μ y ν) ∧ SW σ σ' μ μ' ∧ TP n p' σ' μ' ∧ PD D' σ' μ' ∧ 0 < D' 3 ∧ 0 < D' 1 ∧ 0 < D' 2) := by
  have st : ∀ y τ, E_X6_readSingers_22 (nI 0) σ y τ → R_X6_readSingers σ y τ := fun y τ z => t_X6_readSingers (t_X6_readSingers_2 ⟨fun c => absurd c (by decide), fun _ => ⟨fun _ => z, fun c => absurd (Int32.le_refl _) c⟩⟩)
  have key := p_list (n := n) (M := 5) (c := 3) (by decide) (E22 := E_X6_readSingers_22) (E2 := E_X6_readSingers_2) (Rd := E_X9_isRead_147) (It := fun _ μ x s => R_X9_isSinger μ x s) (Pre := fun D => 0 < D 1 ∧ 0 < D 2)
    (fun D D' h g => ⟨by rw [g 1 (by decide) (by decide)]; exact h.1, by rw [g 2 (by decide) (by decide)]; exact h.2⟩) (by decide)
    (fun σ => t_X6_readSingers_2 ⟨fun _ => ⟨rfl, rfl⟩, fun c => absurd (Int32.le_refl _) c⟩)
    (fun i σ x s y τ h0 hi r f g => t_X6_readSingers_2 ⟨fun c => absurd c (nI_ge (b := 5) hi (by decide)), fun _ => ⟨fun c => absurd c (nI_nle h0 (by omega)), fun _ => ⟨x, s, r, f, g⟩⟩⟩)
    (fun μ s r => t_X9_isRead_147 ⟨fun c => absurd c (by decide), fun _ => ⟨0, s, r, fun c => absurd rfl c, fun _ => ⟨rfl, rfl⟩⟩⟩)
    (fun μ s y ν r f g => t_X9_isRead_147 ⟨fun c => absurd c (by decide), fun _ => ⟨1, s, r, fun _ => ⟨f, g⟩, fun c => absurd c (by decide)⟩⟩)
    (fun i p σ μ D hi t d e q => i_singer hi t d e) 4 0 rfl p σ μ D ht hd h1 hp
  rcases key with ⟨σ', μ', a, b, c⟩ | ⟨σ', μ', p', D', a, b, c, d, e, f, g⟩
  · exact Or.inl ⟨σ', μ', st _ _ a, b, c⟩
  · exact Or.inr ⟨σ', μ', p', D', st _ _ a, b, c, d, e, f, by rw [g 1 (by decide) (by decide)]; exact hp.1, by rw [g 2 (by decide) (by decide)]; exact hp.2⟩
theorem FL_tr {n : Nat} {σ σ1 σ2 μ μ1 μ2 : kS} (h : SW σ σ1 μ μ1) (h2 : FL n σ1 σ2 μ1 μ2) : FL n σ σ2 μ μ2 := ⟨SW_tr h h2.1, h2.2⟩
theorem PD_u {D : Nat → Nat} {σ μ : kS} {p : Nat} (h : PD D σ μ) : PD D (uX σ p) (uM μ p) := PD_1 h (fr_si (by decide)) (fr_si (by decide))
/-- from the letter on -/
theorem p_body {n p : Nat} {σ μ : kS} {D : Nat → Nat} (ht : TP n p σ μ) (hd : PD D σ μ) (h1 : D 1 = 0) (h2 : D 2 = 0) (h3 : D 3 = 0) :
    (∃ σ' μ', (∀ s0, R_X7_clear 11 (k_si s0 1 2 0) σ → R_X6_readValley s0 0 σ') ∧ (∀ m0, (∀ y ν, (∃ x3 s2, R_X9_isSign 109 μ x3 s2 ∧ ((¬ x3 = 0 → E_X9_isRead_39 1 s2 y ν) ∧ (x3 = 0 → y = 0 ∧ ν = s2))) → R_X9_isRead m0 y ν) → R_X9_isRead m0 0 μ') ∧ FL n σ σ' μ μ') ∨
    (∃ σ' μ' p' D', (∀ s0, R_X7_clear 11 (k_si s0 1 2 0) σ → R_X6_readValley s0 1 σ') ∧ (∀ m0, (∀ y ν, (∃ x3 s2, R_X9_isSign 109 μ x3 s2 ∧ ((¬ x3 = 0 → E_X9_isRead_39 1 s2 y ν) ∧ (x3 = 0 → y = 0 ∧ ν = s2))) → R_X9_isRead m0 y ν) → R_X9_isRead m0 1 μ') ∧ SW σ σ' μ μ' ∧ TP n p' σ' μ' ∧ PD D' σ' μ' ∧ 0 < D' 1 ∧ 0 < D' 2 ∧ 0 < D' 3) := by
  have ne : ¬ (1 : Int32) = 0 := by decide
  rcases p_take (c := 109) (by decide) ht with ⟨a1, a2, a3⟩ | ⟨a1, a2⟩
  · have ht1 := TP_up ht a3
    have w1 : SW σ (uX σ p) μ (uM μ p) := SW_up
    rcases p_shapes ht1 (PD_u hd) h1 ⟨h2, h3⟩ with ⟨σ2, μ2, b1, b2, b3⟩ | ⟨σ2, μ2, p2, D2, b1, b2, b3, b4, b5, b6, b7, b8⟩
    · exact Or.inl ⟨σ2, μ2, fun s0 c0 => t_X6_readValley ⟨_, c0, _, _, a1, fun c => absurd c ne, fun _ => ⟨_, _, b1, fun _ => ⟨rfl, rfl⟩, fun c => absurd rfl c⟩⟩, fun m0 f => f _ _ ⟨_, _, a2, fun _ => b2, fun c => absurd c ne⟩, FL_tr w1 b3⟩
    · have w2 := SW_tr w1 b3
      rcases p_take (c := 59) (by decide) b4 with ⟨d1, d2, d3⟩ | ⟨d1, d2⟩
      · have w3 : SW σ (uX σ2 p2) μ (uM μ2 p2) := SW_tr w2 SW_up
        rcases p_fields (TP_up b4 d3) (PD_u b5) b7 ⟨b6, b8⟩ with ⟨σ4, μ4, e1, e2, e3⟩ | ⟨σ4, μ4, p4, D4, e1, e2, e3, e4, e5, e6, e7, e8⟩
        · refine Or.inl ⟨σ4, μ4, fun s0 c0 => t_X6_readValley ⟨_, c0, _, _, a1, fun c => absurd c ne, fun _ => ⟨_, _, b1, fun c => absurd c ne, fun _ => ⟨_, _, d1, fun c => absurd c ne, fun _ => ⟨_, _, e1, fun _ => ⟨rfl, rfl⟩, fun c => absurd rfl c⟩⟩⟩⟩, fun m0 f => f _ _ ⟨_, _, a2, fun _ => b2 _ _ ?_, fun c => absurd c ne⟩, FL_tr w3 e3⟩
          exact t_X9_isRead_39 ⟨fun _ => ⟨_, _, d2, fun _ => e2, fun c => absurd c ne⟩, fun c => absurd rfl c⟩
        · have w4 := SW_tr w3 e3
          rcases p_take (c := 59) (by decide) e4 with ⟨f1, f2, f3⟩ | ⟨f1, f2⟩
          · have w5 : SW σ (uX σ4 p4) μ (uM μ4 p4) := SW_tr w4 SW_up
            rcases p_singers (TP_up e4 f3) (PD_u e5) e8 ⟨e7, e6⟩ with ⟨σ6, μ6, g1, g2, g3⟩ | ⟨σ6, μ6, p6, D6, g1, g2, g3, g4, g5, g6, g7, g8⟩
            · refine Or.inl ⟨σ6, μ6, fun s0 c0 => t_X6_readValley ⟨_, c0, _, _, a1, fun c => absurd c ne, fun _ => ⟨_, _, b1, fun c => absurd c ne, fun _ => ⟨_, _, d1, fun c => absurd c ne, fun _ => ⟨_, _, e1, fun c => absurd c ne, fun _ => ⟨_, _, f1, fun c => absurd c ne, fun _ => ⟨_, _, g1, fun _ => ⟨rfl, rfl⟩, fun c => absurd rfl c⟩⟩⟩⟩⟩⟩, fun m0 f => f _ _ ⟨_, _, a2, fun _ => b2 _ _ ?_, fun c => absurd c ne⟩, FL_tr w5 g3⟩
              exact t_X9_isRead_39 ⟨fun _ => ⟨_, _, d2, fun _ => e2 _ _ (t_X9_isRead_93 ⟨fun _ => ⟨_, _, f2, fun _ => g2, fun c => absurd c ne⟩, fun c => absurd rfl c⟩), fun c => absurd c ne⟩, fun c => absurd rfl c⟩
            · have w6 := SW_tr w5 g3
              have hb := g4
              have eq1 : σ6.1 1 2 = σ6.1 1 1 ↔ p6 = n := by rw [hb.2.2.1, hb.2.2.2.1]; exact nI_eq (by have := hb.1; have := hb.2.1; omega) (by have := hb.1; omega)
              have eq2 : μ6.1 0 5 = μ6.1 0 3 ↔ p6 = n := by rw [hb.2.2.2.2.1, hb.2.2.2.2.2.1]; exact nI_eq (by have := hb.1; have := hb.2.1; omega) (by have := hb.1; omega)
              by_cases q : p6 = n
              · refine Or.inr ⟨σ6, μ6, p6, D6, fun s0 c0 => t_X6_readValley ⟨_, c0, _, _, a1, fun c => absurd c ne, fun _ => ⟨_, _, b1, fun c => absurd c ne, fun _ => ⟨_, _, d1, fun c => absurd c ne, fun _ => ⟨_, _, e1, fun c => absurd c ne, fun _ => ⟨_, _, f1, fun c => absurd c ne, fun _ => ⟨_, _, g1, fun c => absurd c ne, fun _ => ⟨fun c => absurd (eq1.mpr q) c, fun _ => ⟨rfl, rfl⟩⟩⟩⟩⟩⟩⟩⟩, fun m0 f => f _ _ ⟨_, _, a2, fun _ => b2 _ _ ?_, fun c => absurd c ne⟩, w6, g4, g5, g7, g8, g6⟩
                exact t_X9_isRead_39 ⟨fun _ => ⟨_, _, d2, fun _ => e2 _ _ (t_X9_isRead_93 ⟨fun _ => ⟨_, _, f2, fun _ => g2 _ _ (t_X9_isRead_147 ⟨fun _ => ⟨fun c => absurd (eq2.mpr q) c, fun _ => ⟨rfl, rfl⟩⟩, fun c => absurd rfl c⟩), fun c => absurd c ne⟩, fun c => absurd rfl c⟩), fun c => absurd c ne⟩, fun c => absurd rfl c⟩
              · refine Or.inl ⟨σ6, μ6, fun s0 c0 => t_X6_readValley ⟨_, c0, _, _, a1, fun c => absurd c ne, fun _ => ⟨_, _, b1, fun c => absurd c ne, fun _ => ⟨_, _, d1, fun c => absurd c ne, fun _ => ⟨_, _, e1, fun c => absurd c ne, fun _ => ⟨_, _, f1, fun c => absurd c ne, fun _ => ⟨_, _, g1, fun c => absurd c ne, fun _ => ⟨fun _ => ⟨rfl, rfl⟩, fun c => absurd (eq1.mp c) q⟩⟩⟩⟩⟩⟩⟩, fun m0 f => f _ _ ⟨_, _, a2, fun _ => b2 _ _ ?_, fun c => absurd c ne⟩, w6, p6, g4⟩
                exact t_X9_isRead_39 ⟨fun _ => ⟨_, _, d2, fun _ => e2 _ _ (t_X9_isRead_93 ⟨fun _ => ⟨_, _, f2, fun _ => g2 _ _ (t_X9_isRead_147 ⟨fun _ => ⟨fun _ => ⟨rfl, rfl⟩, fun c => absurd (eq2.mp c) q⟩, fun c => absurd rfl c⟩), fun c => absurd c ne⟩, fun c => absurd rfl c⟩), fun c => absurd c ne⟩, fun c => absurd rfl c⟩
          · refine Or.inl ⟨σ4, μ4, fun s0 c0 => t_X6_readValley ⟨_, c0, _, _, a1, fun c => absurd c ne, fun _ => ⟨_, _, b1, fun c => absurd c ne, fun _ => ⟨_, _, d1, fun c => absurd c ne, fun _ => ⟨_, _, e1, fun c => absurd c ne, fun _ => ⟨_, _, f1, fun _ => ⟨rfl, rfl⟩, fun c => absurd rfl c⟩⟩⟩⟩⟩, fun m0 f => f _ _ ⟨_, _, a2, fun _ => b2 _ _ ?_, fun c => absurd c ne⟩, w4, p4, e4⟩
            exact t_X9_isRead_39 ⟨fun _ => ⟨_, _, d2, fun _ => e2 _ _ (t_X9_isRead_93 ⟨fun _ => ⟨_, _, f2, fun c => absurd rfl c, fun _ => ⟨rfl, rfl⟩⟩, fun c => absurd rfl c⟩), fun c => absurd c ne⟩, fun c => absurd rfl c⟩
      · refine Or.inl ⟨σ2, μ2, fun s0 c0 => t_X6_readValley ⟨_, c0, _, _, a1, fun c => absurd c ne, fun _ => ⟨_, _, b1, fun c => absurd c ne, fun _ => ⟨_, _, d1, fun _ => ⟨rfl, rfl⟩, fun c => absurd rfl c⟩⟩⟩, fun m0 f => f _ _ ⟨_, _, a2, fun _ => b2 _ _ ?_, fun c => absurd c ne⟩, w2, p2, b4⟩
        exact t_X9_isRead_39 ⟨fun _ => ⟨_, _, d2, fun c => absurd rfl c, fun _ => ⟨rfl, rfl⟩⟩, fun c => absurd rfl c⟩
  · exact Or.inl ⟨σ, μ, fun s0 c0 => t_X6_readValley ⟨_, c0, _, _, a1, fun _ => ⟨rfl, rfl⟩, fun c => absurd rfl c⟩, fun m0 f => f _ _ ⟨_, _, a2, fun c => absurd rfl c, fun _ => ⟨rfl, rfl⟩⟩, SW_rf, p, ht⟩
theorem m_wipe {μ : kS} {y : Int32} {ν : kS} (h : ∃ x3 s2, R_X9_isSign 109 (k_si (k_fi μ 6 38 0) 0 5 0) x3 s2 ∧ ((¬ x3 = 0 → E_X9_isRead_39 1 s2 y ν) ∧ (x3 = 0 → y = 0 ∧ ν = s2))) : R_X9_isRead μ y ν := by
  have key : ∀ i, i ≤ 38 → E_X9_isRead_2 (nI i) (k_fi μ 6 i 0) y ν := by
    refine loop_up 38 ?_ (fun i hi ih => ?_)
    · exact t_X9_isRead_2 ⟨fun _ => h, fun c => absurd (Int32.le_refl _) c⟩
    · refine t_X9_isRead_2 ⟨fun c => absurd c (nI_ge (b := 38) hi (by decide)), fun _ => ⟨n_in hi (by decide), ?_⟩⟩
      rw [n_N (by omega), k_fi_s, n_inc]; exact ih
  have := key 0 (by decide)
  rw [k_fi_0] at this
  exact t_X9_isRead this
theorem x_wipe {σ : kS} : R_X7_clear 11 σ (k_fi (k_si (k_si (k_si (k_si σ 11 0 0) 11 1 0) 11 2 0) 11 3 0) 18 5 0) := t_X7_clear rfl ⟨_, x_fill rfl (by decide), rfl⟩
theorem q_valley {σ μ : kS} (h : Inv σ μ) : ∃ x τ ν, R_X8_valley σ x τ ∧ R_X9_valley μ x ν ∧ Inv τ ν := by
  obtain ⟨A, i1, ⟨n, hn, t1, t2, t3⟩, i3, i4, i5⟩ := id h
  let s0 : kS := k_fi (k_si (k_si (k_si (k_si (k_si σ 1 2 0) 11 0 0) 11 1 0) 11 2 0) 11 3 0) 18 5 0
  let m0 : kS := k_si (k_fi μ 6 38 0) 0 5 0
  have w0 : SW σ s0 μ m0 := ⟨fr_tr (fr_tr (fr_tr (fr_tr (fr_tr (fr_si (by decide)) (fr_si (by decide))) (fr_si (by decide))) (fr_si (by decide))) (fr_si (by decide))) (fr_fi (by decide)), fr_tr (fr_fi (by decide)) (fr_si (by decide)), by simp [m0, s_i, k_fi]⟩
  have ht : TP n 0 s0 m0 := by
    refine ⟨hn, Nat.zero_le _, ?_, ?_, ?_, ?_, fun i hi => ?_⟩
    · rw [← t1]; simp [s0, s_i, k_fi]
    · rw [nI_0]; simp [s0, s_i, k_fi]
    · rw [← t2]; simp [m0, s_i, k_fi]
    · rw [nI_0]; simp [m0, s_i, k_fi]
    · rw [(w0.1 2 (by decide)).1, (w0.2.1 4 (by decide)).1]; exact t3 i hi
  have hd : PD (fun _ => 0) s0 m0 := by
    refine ⟨⟨⟨?_, ?_, ?_, ?_⟩, fun i hi => absurd hi (Nat.not_lt_zero i), fun i hi => absurd hi (Nat.not_lt_zero i), fun i hi => absurd hi (Nat.not_lt_zero i)⟩, fun i hi => ?_, ⟨rfl, by decide, fun i hi => absurd hi (Nat.not_lt_zero i), fun i hi => absurd hi (Nat.not_lt_zero i), fun i hi => rfl, fun i hi => absurd hi (Nat.not_lt_zero i)⟩, fun i hi => ?_⟩
    · rw [nI_0]; simp [s0, s_i, k_fi]
    · rw [nI_0]; simp [s0, s_i, k_fi]
    · rw [nI_0]; simp [s0, s_i, k_fi]
    · rw [nI_0]; simp [s0, s_i, k_fi]
    · unfold vI; rw [if_neg (fun c => absurd c.2 (show ¬ (0 : Nat) = 9 by decide)), nI_0]; simp [m0, s_i, k_fi, hi]
    · simp [s0, s_i, k_fi, hi]
  have cl : R_X7_clear 11 (k_si σ 1 2 0) s0 := x_wipe
  rcases p_body ht hd rfl rfl rfl with ⟨σ', μ', a1, a2, a3, p, a4⟩ | ⟨σ', μ', p, D, a1, a2, a3, a4, a5, a6, a7, a8⟩
  · have r1 := a1 σ cl
    have r2 := a2 μ (fun y ν z => m_wipe z)
    have w := SW_tr w0 a3
    refine ⟨-100 - nI p, k_si σ' 1 1 0, k_si μ' 0 3 0, t_X8_valley ⟨_, _, r1, fun c => absurd rfl c, fun _ => ⟨by rw [a4.2.2.2.1], rfl⟩⟩, t_X9_valley ⟨_, _, r2, fun c => absurd rfl c, fun _ => ⟨by rw [a4.2.2.2.2.2.1], rfl⟩⟩, ?_⟩
    have fx : fr LW σ (k_si σ' 1 1 0) := fr_tr w.1 (fr_si (by decide))
    have fm : fr [0, 6] μ (k_si μ' 0 3 0) := fr_tr w.2.1 (fr_si (by decide))
    have gx : ∀ k, k ∉ LW → (k_si σ' 1 1 0).1 k = σ.1 k ∧ (k_si σ' 1 1 0).2 k = σ.2 k := fx
    refine ⟨A, I1_kp i1 (fun k hk => (gx k (by simp [LW]; omega)).1) (fm 5 (by decide)).1, ⟨0, by decide, k_si_at, k_si_at, fun i hi => absurd hi (by omega)⟩, I3_kp i3 (fun k p q => (gx k (by simp [LW]; omega)).1) (fm 8 (by decide)).1 (fm 9 (by decide)).1, I4_kp i4 (fun k p q => (gx k (by simp [LW]; omega)).1) ?_ (fm 10 (by decide)).1, I5_kp i5 (fun k p q => gx k (by simp [LW]; omega)) (fm 1 (by decide)).1 (fm 2 (by decide)).1 (fm 3 (by decide)).2⟩
    rw [s_i, if_pos rfl, if_neg (by decide)]; exact w.2.2
  · have r1 := a1 σ cl
    have r2 := a2 μ (fun y ν z => m_wipe z)
    have w := SW_tr w0 a3
    obtain ⟨d0, d1, d2, d3, d4, d5⟩ := a5.2.2.1
    have hW : WF D := ⟨by omega, d1, ⟨by omega, by omega⟩, d2, d3, fun i hi => ⟨(d5 i hi).1, (d5 i hi).2.1, by rw [d4 i (by omega)]; omega, (d5 i hi).2.2⟩⟩
    obtain ⟨τ, b1, b2, b3, b4, b5, b6⟩ := x_begin (v := 11) (σ := k_si σ' 1 1 0) rfl (by decide) (vx_kp a5.1 (fun k p q => k_si_o (by omega))) hW
    have c1 := m_bring (r0 := 6) (n0 := 38) (r2 := 5) (n2 := 38) (i := 0) (j := 0) (n := 38) (σ := k_si μ' 0 3 0) rfl rfl (by decide) (by decide) (by decide) (by decide) (Or.inl (by decide))
    have hm : mr 5 (k_si (k_cp (k_si μ' 0 3 0) 6 5 0 0 38) 0 12 0) D := fun i hi => by
      rw [k_si_o (by decide), cp0, if_pos rfl, if_pos hi, k_si_o (by decide)]
      exact a5.2.1 i hi
    have fx : fr [1, 3, 4, 5, 6, 7, 8, 9, 10, 11, 12, 13, 14, 15, 16, 17, 18, 20, 25, 26] σ τ := fr_tr (fr_tr (fr_mo w.1 (by decide)) (fr_si (by decide))) (fr_mo b6 (by decide))
    have fm : fr [0, 5, 6] μ (k_si (k_cp (k_si μ' 0 3 0) 6 5 0 0 38) 0 12 0) := fr_tr (fr_tr (fr_tr (fr_mo w.2.1 (by decide)) (fr_si (by decide))) (fr_cp (by decide))) (fr_si (by decide))
    refine ⟨nI (D 3), τ, _, t_X8_valley ⟨_, _, r1, fun _ => ⟨τ, b1, b2.1.2.2.1.symm, rfl⟩, fun c => absurd c (by decide)⟩, t_X9_valley ⟨_, _, r2, fun _ => ⟨_, c1, ?_, rfl⟩, fun c => absurd c (by decide)⟩, Inv_n i3 i5 hW (by omega) b2 b3 hm b4 b5 k_si_at ⟨0, by decide, ?_, ?_, fun i hi => absurd hi (by omega)⟩ fx fm⟩
    · have := mr_n hm (i := 3) (by decide)
      rw [k_si_o (by decide)] at this
      exact this.symm
    · rw [(b6 1 (by decide)).1, k_si_at]; rfl
    · rw [s_i, if_pos rfl, if_neg (by decide), k_cp_o (by decide), k_si_at]; rfl
