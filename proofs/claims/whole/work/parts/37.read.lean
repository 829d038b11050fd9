/-! singers -/
def sgD (D : Nat → Nat) (i k lo hi g j : Nat) : Nat := if j = 3 then i + 1 else if j = 13 + i then k else if j = 18 + i then lo else if j = 23 + i then hi else if j = 33 + i then g else D j
theorem p_kind {n p i : Nat} {σ μ : kS} (hi : i < 5) (ht : TP n p σ μ) : (∃ k x, 1 ≤ k ∧ k ≤ 5 ∧ p < n ∧ R_X6_readKind (nI i) σ 1 (k_si (k_si σ 14 i (nI k)) 1 2 (nI (p + 1))) ∧ R_X9_peek μ x μ ∧ R_X9_kindBy x μ (nI k) μ) ∨ (R_X6_readKind (nI i) σ 0 σ ∧ ∃ x, R_X9_peek μ x μ ∧ R_X9_kindBy x μ 0 μ) := by
  obtain ⟨x, x1, x2, x3⟩ := p_peek ht
  have hin : vp_in (nI i) 5 := n_in hi (by decide)
  have hpn : ¬ x = -1 → p < n := fun c => by
    rcases x3 with z | ⟨b, -, -, z⟩
    · exact absurd z c
    · exact z
  have ei : ∀ (c : Int32) (z : Int), c.toInt = z → (x.toInt = z ↔ x = c) := fun c z h => by rw [← h, Int32.toInt_inj]
  have e1 := ei 100 100 rfl
  have e2 := ei 102 102 rfl
  have e3 := ei 104 104 rfl
  have e4 := ei 115 115 rfl
  have e5 := ei 116 116 rfl
  have hst : ∀ k : Nat, (k_si (k_si σ 14 (nI i).toNatClampNeg (nI k)) 1 2 (σ.1 1 2 + 1)) = k_si (k_si σ 14 i (nI k)) 1 2 (nI (p + 1)) := fun k => by rw [n_N (by omega), ht.2.2.2.1, n_inc]
  by_cases q1 : x = 100
  · subst q1
    exact Or.inl ⟨4, 100, by decide, by decide, hpn (by decide), t_X6_readKind ⟨_, _, x1, fun _ => ⟨hin, rfl, (hst 4).symm⟩, fun c => absurd rfl c⟩, x2, t_X9_kindBy ⟨fun _ => ⟨fun _ => ⟨fun _ => ⟨fun c => absurd rfl c, fun _ => ⟨rfl, rfl⟩⟩, fun c => absurd c (by decide)⟩, fun c => absurd c (by decide)⟩, fun c => absurd c (by decide)⟩⟩
  · by_cases q2 : x = 102
    · subst q2
      exact Or.inl ⟨5, 102, by decide, by decide, hpn (by decide), t_X6_readKind ⟨_, _, x1, fun c => absurd (e1.mp c) q1, fun _ => ⟨fun _ => ⟨hin, rfl, (hst 5).symm⟩, fun c => absurd rfl c⟩⟩, x2, t_X9_kindBy ⟨fun _ => ⟨fun _ => ⟨fun _ => ⟨fun _ => ⟨fun c => absurd rfl c, fun _ => ⟨rfl, rfl⟩⟩, fun c => absurd c (by decide)⟩, fun c => absurd c (by decide)⟩, fun c => absurd c (by decide)⟩, fun c => absurd c (by decide)⟩⟩
    · by_cases q3 : x = 104
      · subst q3
        exact Or.inl ⟨2, 104, by decide, by decide, hpn (by decide), t_X6_readKind ⟨_, _, x1, fun c => absurd (e1.mp c) q1, fun _ => ⟨fun c => absurd (e2.mp c) q2, fun _ => ⟨fun _ => ⟨hin, rfl, (hst 2).symm⟩, fun c => absurd rfl c⟩⟩⟩, x2, t_X9_kindBy ⟨fun _ => ⟨fun c => absurd rfl c, fun _ => ⟨rfl, rfl⟩⟩, fun c => absurd c (by decide)⟩⟩
      · by_cases q4 : x = 115
        · subst q4
          exact Or.inl ⟨1, 115, by decide, by decide, hpn (by decide), t_X6_readKind ⟨_, _, x1, fun c => absurd (e1.mp c) q1, fun _ => ⟨fun c => absurd (e2.mp c) q2, fun _ => ⟨fun c => absurd (e3.mp c) q3, fun _ => ⟨fun _ => ⟨hin, rfl, (hst 1).symm⟩, fun c => absurd rfl c⟩⟩⟩⟩, x2, t_X9_kindBy ⟨fun c => absurd rfl c, fun _ => ⟨rfl, rfl⟩⟩⟩
        · by_cases q5 : x = 116
          · subst q5
            exact Or.inl ⟨3, 116, by decide, by decide, hpn (by decide), t_X6_readKind ⟨_, _, x1, fun c => absurd (e1.mp c) q1, fun _ => ⟨fun c => absurd (e2.mp c) q2, fun _ => ⟨fun c => absurd (e3.mp c) q3, fun _ => ⟨fun c => absurd (e4.mp c) q4, fun _ => ⟨fun _ => ⟨hin, rfl, (hst 3).symm⟩, fun c => absurd rfl c⟩⟩⟩⟩⟩, x2, t_X9_kindBy ⟨fun _ => ⟨fun _ => ⟨fun c => absurd rfl c, fun _ => ⟨rfl, rfl⟩⟩, fun c => absurd c (by decide)⟩, fun c => absurd c (by decide)⟩⟩
          · exact Or.inr ⟨t_X6_readKind ⟨_, _, x1, fun c => absurd (e1.mp c) q1, fun _ => ⟨fun c => absurd (e2.mp c) q2, fun _ => ⟨fun c => absurd (e3.mp c) q3, fun _ => ⟨fun c => absurd (e4.mp c) q4, fun _ => ⟨fun c => absurd (e5.mp c) q5, fun _ => ⟨rfl, rfl⟩⟩⟩⟩⟩⟩, x, x2, t_X9_kindBy ⟨fun _ => ⟨fun _ => ⟨fun _ => ⟨fun _ => ⟨fun _ => ⟨rfl, rfl⟩, fun c => absurd c q2⟩, fun c => absurd c q1⟩, fun c => absurd c q5⟩, fun c => absurd c q3⟩, fun c => absurd c q4⟩⟩
theorem sg_PD {i k lo hi g : Nat} {σ μ σ' μ' : kS} {D : Nat → Nat} {pl : Int32} (hi5 : i < 5) (hd : PD D σ μ) (hD : D 3 = i) (hk : 1 ≤ k ∧ k ≤ 5) (hr : lo ≤ hi ∧ hi ≤ 11) (hg : g < D 2 ∨ g = 9) (hpl : pl = if g = 9 then -4 else nI g)
    (c11 : ∀ j, σ'.1 11 j = if j = 2 then nI (i + 1) else σ.1 11 j) (c12 : σ'.1 12 = σ.1 12) (c13 : σ'.1 13 = σ.1 13)
    (c14 : ∀ j, σ'.1 14 j = if j = i then nI k else σ.1 14 j) (c15 : ∀ j, σ'.1 15 j = if j = i then nI lo else σ.1 15 j) (c16 : ∀ j, σ'.1 16 j = if j = i then nI hi else σ.1 16 j) (c17 : ∀ j, σ'.1 17 j = if j = i then pI g else σ.1 17 j) (c18 : σ'.1 18 = σ.1 18)
    (m6 : ∀ j, μ'.1 6 j = if j = 3 then nI (i + 1) else if j = 33 + i then pl else if j = 23 + i then nI hi else if j = 18 + i then nI lo else if j = 13 + i then nI k else μ.1 6 j) :
    PD (sgD D i k lo hi g) σ' μ' ∧ sgD D i k lo hi g 3 = i + 1 ∧ ∀ j, j < 4 → j ≠ 3 → sgD D i k lo hi g j = D j := by
  have e1 : ∀ j, j ≠ 3 → j ≠ 13 + i → j ≠ 18 + i → j ≠ 23 + i → j ≠ 33 + i → sgD D i k lo hi g j = D j := fun j h1 h2 h3 h4 h5 => by unfold sgD; rw [if_neg h1, if_neg h2, if_neg h3, if_neg h4, if_neg h5]
  have e3 : sgD D i k lo hi g 3 = i + 1 := by unfold sgD; rw [if_pos rfl]
  have ek : sgD D i k lo hi g (13 + i) = k := by unfold sgD; rw [if_neg (by omega), if_pos rfl]
  have el : sgD D i k lo hi g (18 + i) = lo := by unfold sgD; rw [if_neg (by omega), if_neg (by omega), if_pos rfl]
  have eh : sgD D i k lo hi g (23 + i) = hi := by unfold sgD; rw [if_neg (by omega), if_neg (by omega), if_neg (by omega), if_pos rfl]
  have eg : sgD D i k lo hi g (33 + i) = g := by unfold sgD; rw [if_neg (by omega), if_neg (by omega), if_neg (by omega), if_neg (by omega), if_pos rfl]
  obtain ⟨w0, w1, w2, w3, w4, w5⟩ := hd.2.2.1
  have hv := hd.1
  have eo : ∀ j, j < 3 ∨ (4 ≤ j ∧ j < 13) ∨ (28 ≤ j ∧ j < 33) → sgD D i k lo hi g j = D j := fun j hj => e1 j (by omega) (by omega) (by omega) (by omega) (by omega)
  have ej : ∀ j, j < i → sgD D i k lo hi g (13 + j) = D (13 + j) ∧ sgD D i k lo hi g (18 + j) = D (18 + j) ∧ sgD D i k lo hi g (23 + j) = D (23 + j) ∧ sgD D i k lo hi g (33 + j) = D (33 + j) := fun j hj => ⟨e1 _ (by omega) (by omega) (by omega) (by omega) (by omega), e1 _ (by omega) (by omega) (by omega) (by omega) (by omega), e1 _ (by omega) (by omega) (by omega) (by omega) (by omega), e1 _ (by omega) (by omega) (by omega) (by omega) (by omega)⟩
  refine ⟨⟨?_, ?_, ?_, ?_⟩, e3, fun j h1 h2 => eo j (by omega)⟩
  · unfold vx
    rw [eo 0 (by omega), eo 1 (by omega), eo 2 (by omega), e3]
    refine ⟨⟨?_, ?_, ?_, ?_⟩, fun j hj => ?_, fun j hj => ?_, fun j hj => ?_⟩
    · rw [c11, if_neg (by decide)]; exact hv.1.1
    · rw [c11, if_neg (by decide)]; exact hv.1.2.1
    · rw [c11, if_pos rfl]
    · rw [c11, if_neg (by decide)]; exact hv.1.2.2.2
    · rw [c12, eo _ (by omega)]; exact hv.2.1 j hj
    · rw [c13, eo _ (by omega)]; exact hv.2.2.1 j hj
    · show σ'.1 14 j = _ ∧ σ'.1 15 j = _ ∧ σ'.1 16 j = _ ∧ σ'.1 18 j = _ ∧ σ'.1 17 j = _
      rw [c14, c15, c16, c17, c18]
      by_cases z : j = i
      · rw [if_pos z, if_pos z, if_pos z, if_pos z, z, ek, el, eh, eg, eo (28 + i) (by omega), w4 i hi5]
        exact ⟨rfl, rfl, rfl, hd.2.2.2 i hi5, rfl⟩
      · obtain ⟨j1, j2, j3, j4⟩ := ej j (by omega)
        rw [if_neg z, if_neg z, if_neg z, if_neg z, j1, j2, j3, j4, eo (28 + j) (by omega)]
        exact hv.2.2.2 j (by omega)
  · intro j hj
    rw [m6]
    by_cases z1 : j = 3
    · rw [if_pos z1, z1]; unfold vI; rw [if_neg (by omega), e3]
    · by_cases z2 : j = 33 + i
      · rw [if_neg z1, if_pos z2, z2, hpl]; unfold vI; rw [eg]
        by_cases z : g = 9
        · rw [if_pos z, if_pos ⟨by omega, z⟩]
        · rw [if_neg z, if_neg (fun c => z c.2)]
      · by_cases z3 : j = 23 + i
        · rw [if_neg z1, if_neg z2, if_pos z3, z3]; unfold vI; rw [if_neg (by omega), eh]
        · by_cases z4 : j = 18 + i
          · rw [if_neg z1, if_neg z2, if_neg z3, if_pos z4, z4]; unfold vI; rw [if_neg (by omega), el]
          · by_cases z5 : j = 13 + i
            · rw [if_neg z1, if_neg z2, if_neg z3, if_neg z4, if_pos z5, z5]; unfold vI; rw [if_neg (by omega), ek]
            · rw [if_neg z1, if_neg z2, if_neg z3, if_neg z4, if_neg z5, hd.2.1 j hj]; unfold vI; rw [e1 j z1 z5 z4 z3 z2]
  · unfold PW
    rw [eo 0 (by omega), eo 1 (by omega), eo 2 (by omega), e3]
    refine ⟨w0, ⟨w1.1, w1.2.1, by omega⟩, fun j hj => ?_, fun j hj => ?_, fun j hj => ?_, fun j hj => ?_⟩
    · rw [eo _ (by omega)]; exact w2 j hj
    · rw [eo _ (by omega)]; exact w3 j hj
    · rw [eo _ (by omega)]; exact w4 j hj
    · by_cases z : j = i
      · rw [z, ek, el, eh, eg]; exact ⟨hk, hr, hg⟩
      · obtain ⟨j1, j2, j3, j4⟩ := ej j (by omega)
        rw [j1, j2, j3, j4]; exact w5 j (by omega)
  · intro j hj; rw [c18]; exact hd.2.2.2 j hj
theorem i_singer {n i p : Nat} {σ μ : kS} {D : Nat → Nat} (hi : i < 5) (ht : TP n p σ μ) (hd : PD D σ μ) (hD : D 3 = i) :
      (∃ σ' μ', E_X6_readSingers_22 (nI i) σ 0 σ' ∧ R_X9_isSinger μ 0 μ' ∧ FL n σ σ' μ μ') ∨
      (∃ σ' μ' p' D', (∀ y τ, E_X6_readSingers_2 (nI (i + 1)) σ' y τ → E_X6_readSingers_22 (nI i) σ y τ) ∧ R_X9_isSinger μ 1 μ' ∧ SW σ σ' μ μ' ∧ TP n p' σ' μ' ∧ PD D' σ' μ' ∧ D' 3 = i + 1 ∧ ∀ j, j < 4 → j ≠ 3 → D' j = D j) := by
  have hin : vp_in (nI i) 5 := n_in hi (by decide)
  have hc2 := hd.2.2.1.2.1
  rcases p_kind hi ht with ⟨k, x, k1, k2, hp0, a1, a2, a3⟩ | ⟨a1, x, a2, a3⟩
  · -- the kind is read
    have ht1 : TP n (p + 1) (k_si (k_si σ 14 i (nI k)) 1 2 (nI (p + 1))) (uM μ p) := TP_mk ht hp0 (by simp [s_i]) (by simp [s_i]) (by rw [k_si_o (by decide), k_si_o (by decide)]) (by simp [uM, s_i]) (by simp [uM, s_i]) (uMo (by decide))
    have hs1 : SW σ (k_si (k_si σ 14 i (nI k)) 1 2 (nI (p + 1))) μ (uM μ p) := ⟨fr_tr (fr_si (by decide)) (fr_si (by decide)), fr_si (by decide), by simp [uM, s_i]⟩
    have k0 : ¬ nI k = 0 := nI_ne0 (by omega) (by omega)
    have em : k_si μ 0 5 (μ.1 0 5 + 1) = uM μ p := by rw [ht.2.2.2.2.2.1, n_inc]; rfl
    generalize hs : k_si (k_si σ 14 i (nI k)) 1 2 (nI (p + 1)) = s1 at a1 ht1 hs1
    rcases p_pitch ht1 with ⟨b1, b2⟩ | ⟨lo, hlo, hp1, b1, b2⟩
    · refine Or.inl ⟨k_si s1 15 i (-1), uM μ p, t_X6_readSingers_22 ⟨_, _, a1, fun c => absurd c (by decide), fun _ => ⟨0, k_si s1 15 i (-1), t_X6_readRange ⟨_, _, b1, hin, hin, ?_⟩, fun _ => ⟨rfl, rfl⟩, fun c => absurd rfl c⟩⟩, t_X9_isSinger ⟨_, _, a2, _, _, a3, fun _ => ⟨_, _, by rw [em]; exact b2, fun c => absurd c (by decide), fun _ => ⟨rfl, rfl⟩⟩, fun c => absurd c k0⟩, SW_tr hs1 ⟨fr_si (by decide), fr_rf, rfl⟩, p + 1, TP_kp ht1 (k_si_o (by decide)) (k_si_o (by decide)) rfl rfl⟩
      rw [n_N (by omega), k_si_at]
      exact ⟨fun c => absurd c (by decide), fun _ => ⟨rfl, rfl⟩⟩
    · have ht2 : TP n (p + 2) (k_si (k_si s1 15 i (nI lo)) 1 2 (nI (p + 2))) (uM (uM μ p) (p + 1)) := TP_mk ht1 hp1 (by simp [s_i]) (by simp [s_i]) (by rw [k_si_o (by decide), k_si_o (by decide)]) (by simp [uM, s_i]) (by simp [uM, s_i]) (uMo (by decide))
      have hs2 : SW s1 (k_si (k_si s1 15 i (nI lo)) 1 2 (nI (p + 2))) (uM μ p) (uM (uM μ p) (p + 1)) := ⟨fr_tr (fr_si (by decide)) (fr_si (by decide)), fr_si (by decide), by simp [uM, s_i]⟩
      have em2 : k_si (uM μ p) 0 5 ((uM μ p).1 0 5 + 1) = uM (uM μ p) (p + 1) := by rw [ht1.2.2.2.2.2.1, n_inc]; rfl
      have hlo0 : (0 : Int32) ≤ nI lo := nI_pos' (by omega)
      have es1 : s1.1 1 2 + 1 = nI (p + 2) := by rw [ht1.2.2.2.1, n_inc]
      generalize hs' : k_si (k_si s1 15 i (nI lo)) 1 2 (nI (p + 2)) = s2 at ht2 hs2
      have e15 : s2.1 15 i = nI lo := by rw [← hs']; simp [s_i]
      -- the upper end, told apart later
      have rng : ∀ (x7 : Int32) (y : Int32) (τ : kS), R_X6_peekPitch s2 x7 s2 → (nI lo ≤ x7 → y = 1 ∧ τ = k_si (k_si s2 16 i x7) 1 2 (nI (p + 3))) → (¬ nI lo ≤ x7 → y = 0 ∧ τ = k_si s2 16 i x7) → R_X6_readRange (nI i) s1 y τ := fun x7 y τ r f g => by
        refine t_X6_readRange ⟨_, _, b1, hin, hin, ?_⟩
        rw [n_N (by omega), k_si_at, es1, hs']
        refine ⟨fun _ => ⟨_, _, r, hin, hin, hin, ?_⟩, fun c => absurd hlo0 c⟩
        rw [k_si_at, e15, ht2.2.2.2.1, n_inc]
        exact ⟨f, g⟩
      rcases p_pitch ht2 with ⟨c1, c2⟩ | ⟨h, hh, hp2, c1, c2⟩
      · have hn : ¬ nI lo ≤ (-1 : Int32) := by rw [le_I, n_T (by omega), show (-1 : Int32).toInt = -1 from rfl]; omega
        refine Or.inl ⟨k_si s2 16 i (-1), uM (uM μ p) (p + 1), t_X6_readSingers_22 ⟨_, _, a1, fun c => absurd c (by decide), fun _ => ⟨0, k_si s2 16 i (-1), rng _ _ _ c1 (fun c => absurd c hn) (fun _ => ⟨rfl, rfl⟩), fun _ => ⟨rfl, rfl⟩, fun c => absurd rfl c⟩⟩, t_X9_isSinger ⟨_, _, a2, _, _, a3, fun _ => ⟨_, _, by rw [em]; exact b2, fun _ => ⟨_, _, by rw [em2]; exact c2, fun c => absurd c hn, fun _ => ⟨rfl, rfl⟩⟩, fun c => absurd hlo0 c⟩, fun c => absurd c k0⟩, SW_tr hs1 (SW_tr hs2 ⟨fr_si (by decide), fr_rf, rfl⟩), p + 2, TP_kp ht2 (k_si_o (by decide)) (k_si_o (by decide)) rfl rfl⟩
      · by_cases hlh : lo ≤ h
        · have hle : nI lo ≤ nI h := nI_le hlh (by omega)
          have ht3 : TP n (p + 3) (k_si (k_si s2 16 i (nI h)) 1 2 (nI (p + 3))) (uM (uM (uM μ p) (p + 1)) (p + 2)) := TP_mk ht2 hp2 (by simp [s_i]) (by simp [s_i]) (by rw [k_si_o (by decide), k_si_o (by decide)]) (by simp [uM, s_i]) (by simp [uM, s_i]) (uMo (by decide))
          have hs3 : SW s2 (k_si (k_si s2 16 i (nI h)) 1 2 (nI (p + 3))) (uM (uM μ p) (p + 1)) (uM (uM (uM μ p) (p + 1)) (p + 2)) := ⟨fr_tr (fr_si (by decide)) (fr_si (by decide)), fr_si (by decide), by simp [uM, s_i]⟩
          have em3 : k_si (uM (uM μ p) (p + 1)) 0 5 ((uM (uM μ p) (p + 1)).1 0 5 + 1) = uM (uM (uM μ p) (p + 1)) (p + 2) := by rw [ht2.2.2.2.2.2.1, n_inc]; rfl
          have rr : R_X6_readRange (nI i) s1 1 (k_si (k_si s2 16 i (nI h)) 1 2 (nI (p + 3))) := rng _ _ _ c1 (fun _ => ⟨rfl, rfl⟩) (fun c => absurd hle c)
          generalize hs'' : k_si (k_si s2 16 i (nI h)) 1 2 (nI (p + 3)) = s3 at ht3 hs3 rr
          generalize hmu : uM (uM (uM μ p) (p + 1)) (p + 2) = μ3 at ht3 hs3 em3
          have sw3 := SW_tr hs1 (SW_tr hs2 hs3)
          have m6 : μ3.1 6 = μ.1 6 := by rw [← hmu, uMo (by decide), uMo (by decide), uMo (by decide)]
          have e11 : s3.1 11 = σ.1 11 := by rw [← hs'', ← hs', ← hs]; simp [k_si_o]
          have ec2 : s3.1 11 1 = nI (D 2) := by rw [e11]; exact hd.1.1.2.1
          have ed2 : μ3.1 6 2 = nI (D 2) := by rw [m6]; exact mr_n hd.2.1 (by decide)
          have ed3 : μ3.1 6 3 = nI i := by rw [m6, mr_n hd.2.1 (by decide), hD]
          -- the reference up to the place
          have ref : ∀ y ν x13 s12, R_X9_isSign 45 μ3 x13 s12 → (¬ x13 = 0 → E_X9_isSinger_118 (nI k) (nI lo) (nI h) (-4) s12 y ν) → (x13 = 0 → ∃ x16 s15, R_X9_peek s12 x16 s15 ∧ ((iv (x16 - 48) 0 ((s15.1 6 2) - 1) → E_X9_isSinger_118 (nI k) (nI lo) (nI h) (x16 - 48) (k_si s15 0 5 (s15.1 0 5 + 1)) y ν) ∧ (¬ iv (x16 - 48) 0 ((s15.1 6 2) - 1) → y = 0 ∧ ν = s15))) → R_X9_isSinger μ y ν := fun y ν x13 s12 r f g =>
            t_X9_isSinger ⟨_, _, a2, _, _, a3, fun _ => ⟨_, _, by rw [em]; exact b2, fun _ => ⟨_, _, by rw [em2]; exact c2, fun _ => ⟨_, _, by rw [em3]; exact r, f, g⟩, fun c => absurd hle c⟩, fun c => absurd hlo0 c⟩, fun c => absurd c k0⟩
          have cls : ∀ y τ x8 s7, R_X6_readPlace (nI i) s3 x8 s7 → (¬ x8 = 0 → E_X6_readSingers_2 (nI (i + 1)) (k_si s7 11 2 (nI (i + 1))) y τ) → (x8 = 0 → y = 0 ∧ τ = s7) → E_X6_readSingers_22 (nI i) σ y τ := fun y τ x8 s7 r f g =>
            t_X6_readSingers_22 ⟨_, _, a1, fun c => absurd c (by decide), fun _ => ⟨1, s3, rr, fun c => absurd c (by decide), fun _ => ⟨_, _, r, fun c => by rw [n_inc]; exact f c, g⟩⟩⟩
          have e118 : ∀ (μ4 : kS) (pl : Int32), μ4.1 6 = μ.1 6 → E_X9_isSinger_118 (nI k) (nI lo) (nI h) pl μ4 1 (k_si (k_si (k_si (k_si (k_si μ4 6 (13 + i) (nI k)) 6 (18 + i) (nI lo)) 6 (23 + i) (nI h)) 6 (33 + i) pl) 6 3 (nI (i + 1))) := fun μ4 pl hm => by
            have e3 : μ4.1 6 3 = nI i := by rw [hm, ← m6]; exact ed3
            have e3' : (k_si (k_si (k_si (k_si μ4 6 (13 + i) (nI k)) 6 (18 + i) (nI lo)) 6 (23 + i) (nI h)) 6 (33 + i) pl).1 6 3 = nI i := by
              rw [s_i, if_pos rfl, if_neg (by omega), s_i, if_pos rfl, if_neg (by omega), s_i, if_pos rfl, if_neg (by omega), s_i, if_pos rfl, if_neg (by omega)]; exact e3
            refine t_X9_isSinger_118 ?_
            rw [e3, show (13 : Int32) = nI 13 from rfl, show (18 : Int32) = nI 18 from rfl, show (23 : Int32) = nI 23 from rfl, show (33 : Int32) = nI 33 from rfl, nI_add, nI_add, nI_add, nI_add, n_N (by omega), n_N (by omega), n_N (by omega), n_N (by omega), e3', n_inc]
            exact ⟨n_in (by omega) (by decide), n_in (by omega) (by decide), n_in (by omega) (by decide), n_in (by omega) (by decide), rfl, rfl⟩
          have fin : ∀ (s7 μ4 : kS) (g q : Nat) (pl : Int32), (g < D 2 ∨ g = 9) → pl = (if g = 9 then -4 else nI g) → TP n q s7 μ4 → SW s3 s7 μ3 μ4 → μ4.1 6 = μ.1 6 → (∀ c, c = 11 ∨ c = 12 ∨ c = 13 ∨ c = 14 ∨ c = 15 ∨ c = 16 ∨ c = 18 → s7.1 c = s3.1 c) → (∀ j, s7.1 17 j = if j = i then pI g else s3.1 17 j) →
              ∃ μ' p' D', μ' = (k_si (k_si (k_si (k_si (k_si μ4 6 (13 + i) (nI k)) 6 (18 + i) (nI lo)) 6 (23 + i) (nI h)) 6 (33 + i) pl) 6 3 (nI (i + 1))) ∧ SW σ (k_si s7 11 2 (nI (i + 1))) μ μ' ∧ TP n p' (k_si s7 11 2 (nI (i + 1))) μ' ∧ PD D' (k_si s7 11 2 (nI (i + 1))) μ' ∧ D' 3 = i + 1 ∧ ∀ j, j < 4 → j ≠ 3 → D' j = D j := by
            intro s7 μ4 g q pl hg hpl htq hsq hm6 hco h17
            refine ⟨_, q, sgD D i k lo h g, rfl, ?_, ?_, ?_⟩
            · exact SW_tr sw3 (SW_tr hsq ⟨fr_si (by decide), fr_tr (fr_tr (fr_tr (fr_tr (fr_si (by decide)) (fr_si (by decide))) (fr_si (by decide))) (fr_si (by decide))) (fr_si (by decide)), by simp [k_si_o]⟩)
            · exact TP_kp htq (k_si_o (by decide)) (k_si_o (by decide)) (by simp [k_si_o]) (by simp [k_si_o])
            · refine sg_PD hi hd hD ⟨k1, k2⟩ ⟨hlh, by omega⟩ hg hpl (fun j => ?_) ?_ ?_ (fun j => ?_) (fun j => ?_) (fun j => ?_) (fun j => ?_) ?_ (fun j => ?_)
              · rw [s_i, if_pos rfl, hco 11 (by omega), e11]
              · rw [k_si_o (by decide), hco 12 (by omega), ← hs'', ← hs', ← hs]; simp [k_si_o]
              · rw [k_si_o (by decide), hco 13 (by omega), ← hs'', ← hs', ← hs]; simp [k_si_o]
              · rw [k_si_o (by decide), hco 14 (by omega), ← hs'', ← hs', ← hs]; simp [s_i]
              · rw [k_si_o (by decide), hco 15 (by omega), ← hs'', ← hs', ← hs]; simp [s_i]
              · rw [k_si_o (by decide), hco 16 (by omega), ← hs'', ← hs', ← hs]; simp [s_i]
              · rw [k_si_o (by decide), h17, ← hs'', ← hs', ← hs]; simp [s_i]
              · rw [k_si_o (by decide), hco 18 (by omega), ← hs'', ← hs', ← hs]; simp [k_si_o]
              · rw [← hm6]; simp only [s_i, if_pos]
          rcases p_take (c := 45) (by decide) ht3 with ⟨d1, d2, d3⟩ | ⟨d1, d2⟩
          · -- at home
            have cl : R_X6_readPlace (nI i) s3 1 (k_si (uX s3 (p + 3)) 17 i (-1)) := t_X6_readPlace ⟨_, _, d1, fun c => absurd c (by decide), fun _ => ⟨hin, rfl, by rw [n_N (by omega)]⟩⟩
            obtain ⟨μ', p', D', f0, f1, f2, f3, f4, f5⟩ := fin (k_si (uX s3 (p + 3)) 17 i (-1)) (uM μ3 (p + 3)) 9 (p + 4) (-4) (Or.inr rfl) (by rw [if_pos rfl]) (TP_kp (TP_up ht3 d3) (k_si_o (by decide)) (k_si_o (by decide)) rfl rfl) (SW_tr SW_up ⟨fr_si (by decide), fr_rf, rfl⟩) (by rw [uMo (by decide)]; exact m6)
              (fun c hc => by rw [k_si_o (by omega), uXo (by omega)]) (fun j => by rw [s_i, if_pos rfl, uXo (by decide)]; rfl)
            refine Or.inr ⟨_, μ', p', D', fun y τ z => cls y τ _ _ cl (fun _ => z) (fun c => absurd c (by decide)), ?_, f1, f2, f3, f4, f5⟩
            rw [f0]
            exact ref _ _ _ _ d2 (fun _ => e118 _ _ (by rw [uMo (by decide)]; exact m6)) (fun c => absurd c (by decide))
          · obtain ⟨x, x1, x2, x3⟩ := p_peek ht3
            have ew : wn (x - 48) (s3.1 11 1) ↔ ∃ g, g < D 2 ∧ x - 48 = nI g := by rw [ec2]; exact n_wn (by omega)
            have ev : iv (x - 48) 0 (μ3.1 6 2 - 1) ↔ ∃ g, g < D 2 ∧ x - 48 = nI g := by rw [ed2]; exact n_ivm (by omega)
            by_cases qg : ∃ g, g < D 2 ∧ x - 48 = nI g
            · obtain ⟨g, hg, eg⟩ := id qg
              have d3 : p + 3 < n := by
                rcases x3 with rfl | ⟨b, -, -, z⟩
                · exfalso
                  have := congrArg Int32.toInt eg
                  rw [n_T (by omega), show ((-1 : Int32) - 48).toInt = -49 by decide] at this
                  omega
                · exact z
              have cl : R_X6_readPlace (nI i) s3 1 (k_si (k_si s3 17 i (nI g)) 1 2 (nI (p + 4))) := by
                refine t_X6_readPlace ⟨_, _, d1, fun _ => ⟨_, _, x1, hin, hin, ?_⟩, fun c => absurd rfl c⟩
                rw [n_N (by omega), k_si_at]
                refine ⟨fun _ => ⟨rfl, ?_⟩, fun c => absurd (ew.mpr qg) c⟩
                rw [eg, ht3.2.2.2.1, n_inc]
              have hp9 : pI g = nI g := by unfold pI; rw [if_neg (by omega)]
              obtain ⟨μ', p', D', f0, f1, f2, f3, f4, f5⟩ := fin (k_si (k_si s3 17 i (nI g)) 1 2 (nI (p + 4))) (uM μ3 (p + 3)) g (p + 4) (nI g) (Or.inl hg) (by rw [if_neg (by omega)]) (TP_mk ht3 d3 (by simp [s_i]) (by simp [s_i]) (by rw [k_si_o (by decide), k_si_o (by decide)]) (by simp [uM, s_i]) (by simp [uM, s_i]) (uMo (by decide))) ⟨fr_tr (fr_si (by decide)) (fr_si (by decide)), fr_si (by decide), by simp [uM, s_i]⟩ (by rw [uMo (by decide)]; exact m6)
                (fun c hc => by rw [k_si_o (by omega), k_si_o (by omega)]) (fun j => by rw [k_si_o (by decide), s_i, if_pos rfl, hp9])
              refine Or.inr ⟨_, μ', p', D', fun y τ z => cls y τ _ _ cl (fun _ => z) (fun c => absurd c (by decide)), ?_, f1, f2, f3, f4, f5⟩
              rw [f0]
              refine ref _ _ _ _ d2 (fun c => absurd rfl c) (fun _ => ⟨_, _, x2, fun _ => ?_, fun c => absurd (ev.mpr qg) c⟩)
              rw [eg, ht3.2.2.2.2.2.1, n_inc]
              exact e118 (uM μ3 (p + 3)) _ (by rw [uMo (by decide)]; exact m6)
            · have cl : R_X6_readPlace (nI i) s3 0 (k_si s3 17 i (x - 48)) := by
                refine t_X6_readPlace ⟨_, _, d1, fun _ => ⟨_, _, x1, hin, hin, ?_⟩, fun c => absurd rfl c⟩
                rw [n_N (by omega), k_si_at]
                exact ⟨fun c => absurd (ew.mp c) qg, fun _ => ⟨rfl, rfl⟩⟩
              exact Or.inl ⟨_, μ3, cls _ _ _ _ cl (fun c => absurd rfl c) (fun _ => ⟨rfl, rfl⟩), ref _ _ _ _ d2 (fun c => absurd rfl c) (fun _ => ⟨_, _, x2, fun c => absurd (ev.mp c) qg, fun _ => ⟨rfl, rfl⟩⟩), SW_tr sw3 ⟨fr_si (by decide), fr_rf, rfl⟩, p + 3, TP_kp ht3 (k_si_o (by decide)) (k_si_o (by decide)) rfl rfl⟩
        · have hn : ¬ nI lo ≤ nI h := nI_ge (by omega) (by omega)
          exact Or.inl ⟨k_si s2 16 i (nI h), uM (uM μ p) (p + 1), t_X6_readSingers_22 ⟨_, _, a1, fun c => absurd c (by decide), fun _ => ⟨0, k_si s2 16 i (nI h), rng _ _ _ c1 (fun c => absurd c hn) (fun _ => ⟨rfl, rfl⟩), fun _ => ⟨rfl, rfl⟩, fun c => absurd rfl c⟩⟩, t_X9_isSinger ⟨_, _, a2, _, _, a3, fun _ => ⟨_, _, by rw [em]; exact b2, fun _ => ⟨_, _, by rw [em2]; exact c2, fun c => absurd c hn, fun _ => ⟨rfl, rfl⟩⟩, fun c => absurd hlo0 c⟩, fun c => absurd c k0⟩, SW_tr hs1 (SW_tr hs2 ⟨fr_si (by decide), fr_rf, rfl⟩), p + 2, TP_kp ht2 (k_si_o (by decide)) (k_si_o (by decide)) rfl rfl⟩
  · exact Or.inl ⟨σ, μ, t_X6_readSingers_22 ⟨_, _, a1, fun _ => ⟨rfl, rfl⟩, fun c => absurd rfl c⟩, t_X9_isSinger ⟨_, _, a2, _, _, a3, fun c => absurd rfl c, fun _ => ⟨rfl, rfl⟩⟩, SW_rf, p, ht⟩
