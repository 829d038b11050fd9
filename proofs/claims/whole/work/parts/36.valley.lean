/-! shapes, fields, singers; the valley -/
theorem TP_mk {n p : Nat} {σ μ σ' μ' : kS} (h : TP n p σ μ) (hp : p < n) (h1 : σ'.1 1 1 = σ.1 1 1) (h2 : σ'.1 1 2 = nI (p + 1)) (h3 : σ'.1 2 = σ.1 2) (h4 : μ'.1 0 3 = μ.1 0 3) (h5 : μ'.1 0 5 = nI (p + 1)) (h6 : μ'.1 4 = μ.1 4) : TP n (p + 1) σ' μ' := by
  obtain ⟨a, b, c, d, e, f, g⟩ := h
  refine ⟨a, by omega, h1.trans c, h2, h4.trans e, h5, ?_⟩
  rw [h3, h6]; exact g
theorem PD_1 {D : Nat → Nat} {σ μ σ' μ' : kS} (h : PD D σ μ) (f1 : fr [1] σ σ') (f2 : fr [0] μ μ') : PD D σ' μ' :=
  ⟨vx_kp h.1 (fun k a b => (f1 k (by simp; omega)).1), mr_kp h.2.1 (f2 6 (by decide)).1, h.2.2.1, fun i hi => by rw [(f1 18 (by decide)).1]; exact h.2.2.2 i hi⟩
theorem SW_1 {σ σ' μ μ' : kS} (f1 : fr [1] σ σ') (f2 : fr [0] μ μ') (h : μ'.1 0 12 = μ.1 0 12) : SW σ σ' μ μ' := ⟨fr_mo f1 (by decide), fr_mo f2 (by decide), h⟩
def shD (D : Nat → Nat) (i m j : Nat) : Nat := if j = 1 then i + 1 else if j = 4 + i then m else D j
theorem i_shape {n i p : Nat} {σ μ : kS} {D : Nat → Nat} (hi : i < 4) (ht : TP n p σ μ) (hd : PD D σ μ) (hD : D 1 = i) :
      (∃ σ' μ', E_X6_readShapes_22 (nI i) σ 0 σ' ∧ R_X9_isShape μ 0 μ' ∧ FL n σ σ' μ μ') ∨
      (∃ σ' μ' p' D', (∀ y τ, E_X6_readShapes_2 (nI (i + 1)) σ' y τ → E_X6_readShapes_22 (nI i) σ y τ) ∧ R_X9_isShape μ 1 μ' ∧ SW σ σ' μ μ' ∧ TP n p' σ' μ' ∧ PD D' σ' μ' ∧ D' 1 = i + 1 ∧ ∀ j, j < 4 → j ≠ 1 → D' j = D j) := by
  have hin : vp_in (nI i) 4 := n_in hi (by decide)
  have hfail : ∀ x, ¬ x = (0 : Int32) → R_X6_peekPitch σ x σ → R_X9_pitchThere μ x μ → (∃ σ' μ', E_X6_readShapes_22 (nI i) σ 0 σ' ∧ R_X9_isShape μ 0 μ' ∧ FL n σ σ' μ μ') := fun x hx a b =>
    ⟨σ, μ, t_X6_readShapes_22 ⟨0, σ, t_X6_readShape ⟨_, _, a, fun c => absurd c hx, fun _ => ⟨rfl, rfl⟩⟩, fun c => absurd rfl c, fun _ => ⟨rfl, rfl⟩⟩, t_X9_isShape ⟨_, _, b, fun c => absurd c hx, fun _ => ⟨rfl, rfl⟩⟩, SW_rf, p, ht⟩
  rcases p_pitch ht with ⟨a, b⟩ | ⟨k, hk, hpn, a, b⟩
  · exact Or.inl (hfail _ (by decide) a b)
  · by_cases q : k = 0
    · subst q
      obtain ⟨p1, m, σ1, μ1, g1, g2, g3, g4, g5, g6, g7, g8⟩ := p_rising (M := 5) (by decide) ht
      have hb : ∀ s, R_J6_bitCount_0f7a4 (nI m) s (nI (pop m)) s := fun s => x_bits g1
      have hd1 := PD_1 hd g6 g7
      have ec : μ1.1 6 1 = nI i := by rw [mr_n hd1.2.1 (by decide), hD]
      by_cases q2 : pop m < 2
      · refine Or.inl ⟨k_si σ1 12 i (nI m), μ1, t_X6_readShapes_22 ⟨0, k_si σ1 12 i (nI m), t_X6_readShape ⟨_, _, a, fun _ => ⟨_, _, g3, hin, hin, ?_⟩, fun c => absurd rfl c⟩, fun c => absurd rfl c, fun _ => ⟨rfl, rfl⟩⟩, t_X9_isShape ⟨_, _, b, fun _ => ⟨_, _, g4, _, _, m_bits g1, fun c => ?_, fun _ => ⟨rfl, rfl⟩⟩, fun c => absurd rfl c⟩, ?_, p1, TP_kp g5 (k_si_o (by decide)) (k_si_o (by decide)) rfl rfl⟩
        · rw [n_N (by omega), k_si_at]
          exact ⟨_, _, hb _, fun _ => ⟨rfl, rfl⟩, fun c => absurd (nI_lt (b := 2) q2 (by decide)) c⟩
        · exact absurd ((nI_leI (a := 2) (by decide) (by omega)).mp c) (by omega)
        · exact SW_tr (SW_1 g6 g7 g8) ⟨fr_si (by decide), fr_rf, rfl⟩
      · have e1 : ∀ j, j ≠ 1 → j ≠ 4 + i → shD D i m j = D j := fun j h1 h2 => by unfold shD; rw [if_neg h1, if_neg h2]
        have e2 : shD D i m 1 = i + 1 := by unfold shD; rw [if_pos rfl]
        have e3 : shD D i m (4 + i) = m := by unfold shD; rw [if_neg (by omega), if_pos rfl]
        refine Or.inr ⟨k_si (k_si σ1 12 i (nI m)) 11 0 (nI (i + 1)), k_si (k_si μ1 6 (4 + i) (nI m)) 6 1 (nI (i + 1)), p1, shD D i m, fun y τ z => t_X6_readShapes_22 ⟨1, k_si σ1 12 i (nI m), t_X6_readShape ⟨_, _, a, fun _ => ⟨_, _, g3, hin, hin, ?_⟩, fun c => absurd rfl c⟩, fun _ => ?_, fun c => absurd c (by decide)⟩, t_X9_isShape ⟨_, _, b, fun _ => ⟨_, _, g4, _, _, m_bits g1, fun _ => ?_, fun c => ?_⟩, fun c => absurd rfl c⟩, ?_, ?_, ⟨?_, ?_, ?_, ?_⟩, e2, fun j h1 h2 => e1 j h2 (by omega)⟩
        · rw [n_N (by omega), k_si_at]
          exact ⟨_, _, hb _, fun c => absurd ((nI_ltI (b := 2) (by omega) (by decide)).mp c) q2, fun _ => ⟨rfl, rfl⟩⟩
        · rw [n_inc]; exact z
        · rw [ec, show (4 : Int32) = nI 4 from rfl, nI_add, n_N (by omega), s_i, if_pos rfl, if_neg (by omega), ec, n_inc]
          exact ⟨n_in (by omega) (by decide), rfl, rfl⟩
        · exact absurd (nI_le (a := 2) (by omega) (by omega)) c
        · exact SW_tr (SW_1 g6 g7 g8) ⟨fr_tr (fr_si (by decide)) (fr_si (by decide)), fr_tr (fr_si (by decide)) (fr_si (by decide)), by rw [k_si_o (by decide), k_si_o (by decide)]⟩
        · exact TP_kp g5 (by rw [k_si_o (by decide), k_si_o (by decide)]) (by rw [k_si_o (by decide), k_si_o (by decide)]) (by rw [k_si_o (by decide), k_si_o (by decide)]) (by rw [k_si_o (by decide), k_si_o (by decide)])
        · have hv := hd1.1
          have h2 := hd.2.2.1.2.1
          unfold vx
          rw [e1 0 (by decide) (by omega), e2, e1 2 (by decide) (by omega), e1 3 (by decide) (by omega)]
          refine ⟨⟨k_si_at, ?_, ?_, ?_⟩, fun j hj => ?_, fun j hj => ?_, fun j hj => ?_⟩
          · simp only [s_i]; exact hv.1.2.1
          · simp only [s_i]; exact hv.1.2.2.1
          · simp only [s_i]; exact hv.1.2.2.2
          · rw [k_si_o (by decide), s_i, if_pos rfl]
            by_cases z : j = i
            · rw [if_pos z, z, e3]
            · rw [if_neg z, e1 _ (by omega) (by omega)]; exact hv.2.1 j (by omega)
          · rw [k_si_o (by decide), k_si_o (by decide), e1 _ (by omega) (by omega)]; exact hv.2.2.1 j hj
          · rw [e1 _ (by omega) (by omega), e1 _ (by omega) (by omega), e1 _ (by omega) (by omega), e1 _ (by omega) (by omega), e1 _ (by omega) (by omega)]
            exact hv.2.2.2 j hj
        · intro j hj
          have hm := hd1.2.1 j hj
          rw [s_i, if_pos rfl]
          by_cases z : j = 1
          · rw [if_pos z, z]; unfold vI; rw [if_neg (by omega), e2]
          · rw [if_neg z, s_i, if_pos rfl]
            by_cases z2 : j = 4 + i
            · rw [if_pos z2, z2]; unfold vI; rw [if_neg (by omega), e3]
            · rw [if_neg z2, hm]; unfold vI; rw [e1 j z z2]
        · obtain ⟨w0, w1, w2, w3, w4, w5⟩ := hd.2.2.1
          unfold PW
          rw [e1 0 (by decide) (by omega), e2, e1 2 (by decide) (by omega), e1 3 (by decide) (by omega)]
          refine ⟨w0, ⟨by omega, w1.2⟩, fun j hj => ?_, fun j hj => ?_, fun j hj => ?_, fun j hj => ?_⟩
          · by_cases z : j = i
            · rw [z, e3]; exact ⟨g1, by omega, g2⟩
            · rw [e1 _ (by omega) (by omega)]; exact w2 j (by omega)
          · rw [e1 _ (by omega) (by omega)]; exact w3 j hj
          · rw [e1 _ (by omega) (by omega)]; exact w4 j hj
          · rw [e1 _ (by omega) (by omega), e1 _ (by omega) (by omega), e1 _ (by omega) (by omega), e1 _ (by omega) (by omega)]; exact w5 j hj
        · intro j hj
          rw [k_si_o (by decide), k_si_o (by decide)]; exact hd1.2.2.2 j hj
    · exact Or.inl (hfail _ (nI_ne0 (by omega) (by omega)) a b)
def fiD (D : Nat → Nat) (i m j : Nat) : Nat := if j = 2 then i + 1 else if j = 8 + i then m else D j
theorem i_fieldP {i m : Nat} {σ μ : kS} {D : Nat → Nat} (hi : i < 5) (hd : PD D σ μ) (hD : D 2 = i) (hD3 : D 3 = 0) (hm : m < 4096) : PD (fiD D i m) (k_si (k_si σ 13 i (nI m)) 11 1 (nI (i + 1))) (k_si (k_si μ 6 (8 + i) (nI m)) 6 2 (nI (i + 1))) ∧ fiD D i m 2 = i + 1 ∧ ∀ j, j < 4 → j ≠ 2 → fiD D i m j = D j := by
  have e1 : ∀ j, j ≠ 2 → j ≠ 8 + i → fiD D i m j = D j := fun j h1 h2 => by unfold fiD; rw [if_neg h1, if_neg h2]
  have e2 : fiD D i m 2 = i + 1 := by unfold fiD; rw [if_pos rfl]
  have e3 : fiD D i m (8 + i) = m := by unfold fiD; rw [if_neg (by omega), if_pos rfl]
  have h2 := hd.2.2.1.2.1
  refine ⟨⟨?_, ?_, ?_, ?_⟩, e2, fun j h1 h2 => e1 j h2 (by omega)⟩
  · have hv := hd.1
    unfold vx
    rw [e1 0 (by decide) (by omega), e1 1 (by decide) (by omega), e2, e1 3 (by decide) (by omega)]
    refine ⟨⟨?_, k_si_at, ?_, ?_⟩, fun j hj => ?_, fun j hj => ?_, fun j hj => ?_⟩
    · simp only [s_i]; exact hv.1.1
    · simp only [s_i]; exact hv.1.2.2.1
    · simp only [s_i]; exact hv.1.2.2.2
    · rw [k_si_o (by decide), k_si_o (by decide), e1 _ (by omega) (by omega)]; exact hv.2.1 j hj
    · rw [k_si_o (by decide), s_i, if_pos rfl]
      by_cases z : j = i
      · rw [if_pos z, z, e3]
      · rw [if_neg z, e1 _ (by omega) (by omega)]; exact hv.2.2.1 j (by omega)
    · omega
  · intro j hj
    have hm := hd.2.1 j hj
    rw [s_i, if_pos rfl]
    by_cases z : j = 2
    · rw [if_pos z, z]; unfold vI; rw [if_neg (by omega), e2]
    · rw [if_neg z, s_i, if_pos rfl]
      by_cases z2 : j = 8 + i
      · rw [if_pos z2, z2]; unfold vI; rw [if_neg (by omega), e3]
      · rw [if_neg z2, hm]; unfold vI; rw [e1 j z z2]
  · obtain ⟨w0, w1, w2, w3, w4, w5⟩ := hd.2.2.1
    unfold PW
    rw [e1 0 (by decide) (by omega), e1 1 (by decide) (by omega), e2, e1 3 (by decide) (by omega)]
    refine ⟨w0, ⟨w1.1, by omega, w1.2.2⟩, fun j hj => ?_, fun j hj => ?_, fun j hj => ?_, fun j hj => by omega⟩
    · rw [e1 _ (by omega) (by omega)]; exact w2 j hj
    · by_cases z : j = i
      · rw [z, e3]; exact hm
      · rw [e1 _ (by omega) (by omega)]; exact w3 j (by omega)
    · rw [e1 _ (by omega) (by omega)]; exact w4 j hj
  · intro j hj
    rw [k_si_o (by decide), k_si_o (by decide)]; exact hd.2.2.2 j hj
theorem i_field {n i p : Nat} {σ μ : kS} {D : Nat → Nat} (hi : i < 5) (ht : TP n p σ μ) (hd : PD D σ μ) (hD : D 2 = i) (hD3 : D 3 = 0) :
      (∃ σ' μ', E_X6_readFields_22 (nI i) σ 0 σ' ∧ R_X9_isFieldItem μ 0 μ' ∧ FL n σ σ' μ μ') ∨
      (∃ σ' μ' p' D', (∀ y τ, E_X6_readFields_2 (nI (i + 1)) σ' y τ → E_X6_readFields_22 (nI i) σ y τ) ∧ R_X9_isFieldItem μ 1 μ' ∧ SW σ σ' μ μ' ∧ TP n p' σ' μ' ∧ PD D' σ' μ' ∧ D' 2 = i + 1 ∧ ∀ j, j < 4 → j ≠ 2 → D' j = D j) := by
  have hin : vp_in (nI i) 5 := n_in hi (by decide)
  have h24 : ∀ (μ1 : kS) (m : Nat), μ1.1 6 2 = nI i → E_X9_isFieldItem_24 (nI m) μ1 1 (k_si (k_si μ1 6 (8 + i) (nI m)) 6 2 (nI (i + 1))) := fun μ1 m ec => t_X9_isFieldItem_24 (by
    rw [ec, show (8 : Int32) = nI 8 from rfl, nI_add, n_N (by omega), s_i, if_pos rfl, if_neg (by omega), ec, n_inc]
    exact ⟨n_in (by omega) (by decide), rfl, rfl⟩)
  have hsw : ∀ (s s' : kS) (m : Nat), SW s (k_si (k_si s 13 i (nI m)) 11 1 (nI (i + 1))) s' (k_si (k_si s' 6 (8 + i) (nI m)) 6 2 (nI (i + 1))) := fun s s' m => ⟨fr_tr (fr_si (by decide)) (fr_si (by decide)), fr_tr (fr_si (by decide)) (fr_si (by decide)), by rw [k_si_o (by decide), k_si_o (by decide)]⟩
  have htp : ∀ (s s' : kS) (m q : Nat), TP n q s s' → TP n q (k_si (k_si s 13 i (nI m)) 11 1 (nI (i + 1))) (k_si (k_si s' 6 (8 + i) (nI m)) 6 2 (nI (i + 1))) := fun s s' m q h => TP_kp h (by rw [k_si_o (by decide), k_si_o (by decide)]) (by rw [k_si_o (by decide), k_si_o (by decide)]) (by rw [k_si_o (by decide), k_si_o (by decide)]) (by rw [k_si_o (by decide), k_si_o (by decide)])
  rcases p_take (c := 45) (by decide) ht with ⟨b1, b2, b3⟩ | ⟨b1, b2⟩
  · have hd1 : PD D (uX σ p) (uM μ p) := PD_1 hd (fr_si (by decide)) (fr_si (by decide))
    have ec : (uM μ p).1 6 2 = nI i := by rw [mr_n hd1.2.1 (by decide), hD]
    obtain ⟨r1, r2, r3⟩ := i_fieldP (m := 0) hi hd1 hD hD3 (by decide)
    refine Or.inr ⟨_, _, p + 1, fiD D i 0, fun y τ z => t_X6_readFields_22 ⟨_, _, b1, fun c => absurd c (by decide), fun _ => t_X6_readFields_48 ⟨hin, fun _ => ?_, fun c => absurd c (by decide)⟩⟩, t_X9_isFieldItem ⟨_, _, b2, fun _ => h24 _ 0 ec, fun c => absurd c (by decide)⟩, SW_tr SW_up (hsw _ _ 0), htp _ _ _ _ (TP_up ht b3), r1, r2, r3⟩
    rw [n_N (by omega), n_inc]; exact z
  · obtain ⟨p1, m, σ1, μ1, g1, g2, g3, g4, g5, g6, g7, g8⟩ := p_rising (M := 12) (by decide) ht
    have hd1 := PD_1 hd g6 g7
    have ec : μ1.1 6 2 = nI i := by rw [mr_n hd1.2.1 (by decide), hD]
    by_cases q : m = 0
    · subst q
      refine Or.inl ⟨k_si σ1 13 i (nI 0), μ1, t_X6_readFields_22 ⟨_, _, b1, fun _ => ⟨_, _, g3, t_X6_readFields_48 ⟨hin, fun c => absurd rfl c, fun _ => ⟨hin, ?_⟩⟩⟩, fun c => absurd rfl c⟩, t_X9_isFieldItem ⟨_, _, b2, fun c => absurd rfl c, fun _ => ⟨_, _, g4, fun c => absurd rfl c, fun _ => ⟨rfl, rfl⟩⟩⟩, SW_tr (SW_1 g6 g7 g8) ⟨fr_si (by decide), fr_rf, rfl⟩, p1, TP_kp g5 (k_si_o (by decide)) (k_si_o (by decide)) rfl rfl⟩
      rw [n_N (by omega), k_si_at]
      exact ⟨fun c => absurd rfl c, fun _ => ⟨rfl, rfl⟩⟩
    · obtain ⟨r1, r2, r3⟩ := i_fieldP (m := m) hi hd1 hD hD3 g1
      have hm0 : ¬ nI m = 0 := nI_ne0 (by omega) (by omega)
      refine Or.inr ⟨_, _, p1, fiD D i m, fun y τ z => t_X6_readFields_22 ⟨_, _, b1, fun _ => ⟨_, _, g3, t_X6_readFields_48 ⟨hin, fun c => absurd rfl c, fun _ => ⟨hin, ?_⟩⟩⟩, fun c => absurd rfl c⟩, t_X9_isFieldItem ⟨_, _, b2, fun c => absurd rfl c, fun _ => ⟨_, _, g4, fun _ => h24 _ m ec, fun c => absurd c hm0⟩⟩, SW_tr (SW_1 g6 g7 g8) (hsw _ _ m), htp _ _ _ _ g5, r1, r2, r3⟩
      rw [n_N (by omega), k_si_at, n_inc]
      exact ⟨fun _ => z, fun c => absurd c hm0⟩
