/-! the best way to stand -/
def bst (A : Nat → Nat) (t : Nat) (σ μ : kS) : Prop :=
  (t = 0 ∧ σ.1 29 4 = -16 ∧ μ.1 0 15 = -1) ∨ ∃ P : Nat → Nat, (∀ i, P i ≤ A 2) ∧ σ.1 29 4 = nI (16 * fuS A P) - nI (efS A P) ∧ μ.1 0 15 = nI (fuS A P) ∧ μ.1 0 16 = nI (efS A P) ∧ ∀ i, i < A 3 → σ.1 33 i = nI (P i) ∧ μ.1 12 i = if P i = A 2 then -4 else nI (P i)
theorem w_cmp {F E F' E' : Nat} (hF : F ≤ 5) (hE : E ≤ 15) (hF' : F' ≤ 5) (hE' : E' ≤ 15) : (nI (16 * F) - nI E ≤ nI (16 * F') - nI E') ↔ ¬ (F' < F ∨ (F = F' ∧ E < E')) := by
  rw [le_I, pk_sub_toInt (by omega) (by omega), pk_sub_toInt (by omega) (by omega)]
  omega
theorem w_16 {F E : Nat} (hF : F ≤ 5) (hE : E ≤ 15) : ¬ (nI (16 * F) - nI E ≤ -16) := by
  rw [le_I, pk_sub_toInt (by omega) (by omega), show (-16 : Int32).toInt = -16 from rfl]
  omega
def LXs : List Nat := [28, 29, 30, 31, 32, 33]
def LMs : List Nat := [0, 7, 11, 12]
theorem p_stand {A : Nat → Nat} {σ μ : kS} (hW : WF A) (qt : 0 < A 1) (hx : vx 3 σ A) (hm : mr 5 μ A) (hw : ∀ f, f < A 2 → ∀ G, G < 2 ^ A 3 → σ.1 30 (32 * f + G) = wv A f G) (h5 : σ.1 29 5 = nI (A 2)) :
    ∀ t, t ≤ (A 2 + 1) ^ A 3 → ∀ σ' μ', fr [29, 31, 32, 33] σ σ' → σ'.1 29 5 = nI (A 2) → fr LMs μ μ' → μ'.1 0 3 = μ.1 0 3 → μ'.1 0 12 = μ.1 0 12 → ODs (A 2) (A 3) (dg (A 2 + 1) (A 3) t) σ' → bst A t σ' μ' →
      ∃ τ ν, E_X5_find_67 (nI ((A 2 + 1) ^ A 3)) (nI t) σ' τ ∧ E_X9_layStands_40 (nI (A 2 + 1)) (nI ((A 2 + 1) ^ A 3)) (nI t) μ' ν ∧ fr [29, 31, 32, 33] σ τ ∧ fr LMs μ ν ∧ ν.1 0 3 = μ.1 0 3 ∧ ν.1 0 12 = μ.1 0 12 ∧ τ.1 29 5 = nI (A 2) ∧ bst A ((A 2 + 1) ^ A 3) τ ν := by
  have hc := wfc hW
  have hA2 : 1 ≤ A 2 := by have := hW.2.2.1; omega
  have hB : (A 2 + 1) ^ A 3 ≤ 6 ^ 5 := Nat.le_trans (Nat.pow_le_pow_left (by omega) _) (Nat.pow_le_pow_right (by decide) (by omega))
  refine loop_up _ (fun σ' μ' f1 g5 f2 z3 z12 o b => ?_) (fun t ht ih σ' μ' f1 g5 f2 z3 z12 o b => ?_)
  · exact ⟨σ', μ', t_X5_find_67 ⟨fun _ => rfl, fun z => absurd (Int32.le_refl _) z⟩, t_X9_layStands_40 ⟨fun _ => rfl, fun z => absurd (Int32.le_refl _) z⟩, f1, f2, z3, z12, g5, b⟩
  · have hP : ∀ i, dg (A 2 + 1) (A 3) t i ≤ A 2 := fun i => by have := Nat.mod_lt (t / (A 2 + 1) ^ (A 3 - 1 - i)) (show 0 < A 2 + 1 by omega); unfold dg; omega
    have hF := fuS_le (P := dg (A 2 + 1) (A 3) t) hW
    have hE := efS_le (P := dg (A 2 + 1) (A 3) t) hW hP
    have nle : ¬ nI ((A 2 + 1) ^ A 3) ≤ nI t := nI_ge ht (by omega)
    -- the class
    have hx' : vx 3 σ' A := vx_kp hx (fun k a b => (f1 k (by simp; omega)).1)
    have hwo : R_X5_worthOfAll σ' (nI (16 * fuS A (dg (A 2 + 1) (A 3) t)) - nI (efS A (dg (A 2 + 1) (A 3) t))) σ' := x_worth hW g5 o (fun f hf G hG => by rw [(f1 30 (by decide)).1]; exact hw f hf G hG)
    -- the reference, up to the comparison
    have hm' : mr 5 μ' A := mr_kp hm (f2 5 (by decide)).1
    obtain ⟨b1, b2, b3⟩ := m_begin hm'
    have e53 : (k_cp μ' 5 7 0 0 38).1 5 3 = nI (A 3) := by rw [(b3 5 (by decide)).1]; exact mr_n hm' (by decide)
    obtain ⟨μ1, d1, d2, d3⟩ := m_digits (t := t) (l2 := nI ((A 2 + 1) ^ A 3)) (l3 := nI t) hW (mr_kp hm' (b3 5 (by decide)).1) b2 (by omega) hA2
    obtain ⟨μ2, s1, s2, s3⟩ := m_singAll (r := 7) rfl (by decide) d2 (cfK_wf hW hP)
    have f7 : fr [7, 11] μ' μ2 := fr_tr (fr_tr (fr_mo b3 (by decide)) (fr_mo d1 (by decide))) (fr_mo s2 (by decide))
    have hm2 : mr 5 μ2 A := mr_kp hm' (f7 5 (by decide)).1
    have h72 : mr 7 μ2 (cfK A (dg (A 2 + 1) (A 3) t) 0) := mr_kp d2 (s2 7 (by decide)).1
    have hful : R_X9_bits (nI (fuA (cfK A (dg (A 2 + 1) (A 3) t) 0))) μ2 (nI (fuS A (dg (A 2 + 1) (A 3) t))) μ2 := by
      have := m_bits (n := fuA (cfK A (dg (A 2 + 1) (A 3) t) 0)) (σ := μ2) (by have := fuA_lt (cfK_wf (P := dg (A 2 + 1) (A 3) t) hW hP); omega)
      rw [cf_ful hW] at this; exact this
    have e015 : μ2.1 0 15 = μ'.1 0 15 ∧ μ2.1 0 16 = μ'.1 0 16 := ⟨by rw [(f7 0 (by decide)).1], by rw [(f7 0 (by decide)).1]⟩
    have ref : ∀ ν, (((μ'.1 0 15) < nI (fuS A (dg (A 2 + 1) (A 3) t)) → E_X9_layStands_208 (nI (A 2 + 1)) (nI ((A 2 + 1) ^ A 3)) (nI t) (nI (fuS A (dg (A 2 + 1) (A 3) t))) (nI (efS A (dg (A 2 + 1) (A 3) t))) μ2 ν) ∧ (¬ (μ'.1 0 15) < nI (fuS A (dg (A 2 + 1) (A 3) t)) → (¬ nI (fuS A (dg (A 2 + 1) (A 3) t)) = (μ'.1 0 15) → E_X9_layStands_40 (nI (A 2 + 1)) (nI ((A 2 + 1) ^ A 3)) (nI t + 1) μ2 ν) ∧ (nI (fuS A (dg (A 2 + 1) (A 3) t)) = (μ'.1 0 15) → ((μ'.1 0 16) ≤ nI (efS A (dg (A 2 + 1) (A 3) t)) → E_X9_layStands_40 (nI (A 2 + 1)) (nI ((A 2 + 1) ^ A 3)) (nI t + 1) μ2 ν) ∧ (¬ (μ'.1 0 16) ≤ nI (efS A (dg (A 2 + 1) (A 3) t)) → E_X9_layStands_208 (nI (A 2 + 1)) (nI ((A 2 + 1) ^ A 3)) (nI t) (nI (fuS A (dg (A 2 + 1) (A 3) t))) (nI (efS A (dg (A 2 + 1) (A 3) t))) μ2 ν)))) → E_X9_layStands_40 (nI (A 2 + 1)) (nI ((A 2 + 1) ^ A 3)) (nI t) μ' ν := by
      intro ν z
      refine t_X9_layStands_40 ⟨fun y => absurd y nle, fun _ => ⟨_, b1, ?_⟩⟩
      rw [e53]
      refine d3 ν ⟨_, _, s1, _, _, hful, m_effort hW hP hm2 s3 ν ?_⟩
      rw [e015.1, e015.2]; exact z
    -- the better one is taken
    have take : (¬ (nI (16 * fuS A (dg (A 2 + 1) (A 3) t)) - nI (efS A (dg (A 2 + 1) (A 3) t)) ≤ σ'.1 29 4)) → ((μ'.1 0 15) < nI (fuS A (dg (A 2 + 1) (A 3) t)) ∨ (nI (fuS A (dg (A 2 + 1) (A 3) t)) = μ'.1 0 15 ∧ ¬ (μ'.1 0 16) ≤ nI (efS A (dg (A 2 + 1) (A 3) t)))) → ∃ τ ν, E_X5_find_67 (nI ((A 2 + 1) ^ A 3)) (nI t) σ' τ ∧ E_X9_layStands_40 (nI (A 2 + 1)) (nI ((A 2 + 1) ^ A 3)) (nI t) μ' ν ∧ fr [29, 31, 32, 33] σ τ ∧ fr LMs μ ν ∧ ν.1 0 3 = μ.1 0 3 ∧ ν.1 0 12 = μ.1 0 12 ∧ τ.1 29 5 = nI (A 2) ∧ bst A ((A 2 + 1) ^ A 3) τ ν := by
      intro hb hr
      let W : Int32 := nI (16 * fuS A (dg (A 2 + 1) (A 3) t)) - nI (efS A (dg (A 2 + 1) (A 3) t))
      have fs : fr [29, 33] σ' (k_cp (k_si σ' 29 4 W) 31 33 0 0 5) := fr_tr (fr_si (by decide)) (fr_cp (by decide))
      have o2 : ODs (A 2) (A 3) (dg (A 2 + 1) (A 3) t) (k_cp (k_si σ' 29 4 W) 31 33 0 0 5) := ⟨fun i hi => by rw [(fs 31 (by decide)).1]; exact o.1 i hi, fun f hf => by rw [(fs 32 (by decide)).1]; exact o.2 f hf⟩
      have e295 : (k_cp (k_si σ' 29 4 W) 31 33 0 0 5).1 29 5 = nI (A 2) := by rw [k_cp_o (by decide), s_i, if_pos rfl, if_neg (by decide)]; exact g5
      obtain ⟨σ2, t1, t2, t3⟩ := x_turnAll (t := t) hA2 hc.2.1 hc.2.2 e295 o2
      have c1 := m_bring (r0 := 7) (n0 := 38) (r2 := 12) (n2 := 5) (i := 33) (j := 0) (n := 5) (σ := k_si (k_si μ2 0 15 (nI (fuS A (dg (A 2 + 1) (A 3) t)))) 0 16 (nI (efS A (dg (A 2 + 1) (A 3) t)))) rfl rfl (by decide) (by decide) (by decide) (by decide) (Or.inl (by decide))
      let μ3 : kS := k_cp (k_si (k_si μ2 0 15 (nI (fuS A (dg (A 2 + 1) (A 3) t)))) 0 16 (nI (efS A (dg (A 2 + 1) (A 3) t)))) 7 12 33 0 5
      have fm3 : fr [0, 12] μ2 μ3 := fr_tr (fr_tr (fr_si (by decide)) (fr_si (by decide))) (fr_cp (by decide))
      have e0 : ∀ j, j ≠ 15 → j ≠ 16 → μ3.1 0 j = μ'.1 0 j := fun j h1 h2 => by
        rw [k_cp_o (by decide), s_i, if_pos rfl, if_neg h2, s_i, if_pos rfl, if_neg h1, (f7 0 (by decide)).1]
      have hb2 : bst A (t + 1) σ2 μ3 := by
        refine Or.inr ⟨dg (A 2 + 1) (A 3) t, hP, ?_, ?_, ?_, fun i hi => ⟨?_, ?_⟩⟩
        · rw [(t2 29 (by decide)).1, k_cp_o (by decide), k_si_at]
        · rw [k_cp_o (by decide), s_i, if_pos rfl, if_neg (by decide), k_si_at]
        · rw [k_cp_o (by decide), k_si_at]
        · rw [(t2 33 (by decide)).1, cp0, if_pos rfl, if_pos (by omega), k_si_o (by decide)]; exact o.1 i hi
        · rw [cpA, if_pos rfl, if_pos (by omega), k_si_o (by decide), k_si_o (by decide), show 33 + (i - 0) = 33 + i by omega, h72 (33 + i) (by omega)]
          unfold vI
          rw [cfK_p hi]
          have := hP i
          by_cases q : dg (A 2 + 1) (A 3) t i = A 2
          · rw [if_pos q, if_pos q, if_pos ⟨by omega, rfl⟩]
          · rw [if_neg q, if_neg q, if_neg (by omega)]
      obtain ⟨τ, ν, j1, j2, j3⟩ := ih σ2 μ3 (fr_tr f1 (fr_tr (fr_mo fs (by decide)) (fr_mo t2 (by decide)))) (by rw [(t2 29 (by decide)).1]; exact e295) (fr_tr f2 (fr_tr (fr_mo f7 (by decide)) (fr_mo fm3 (by decide)))) (by rw [e0 3 (by decide) (by decide)]; exact z3) (by rw [e0 12 (by decide) (by decide)]; exact z12) t3 hb2
      have e208 : E_X9_layStands_208 (nI (A 2 + 1)) (nI ((A 2 + 1) ^ A 3)) (nI t) (nI (fuS A (dg (A 2 + 1) (A 3) t))) (nI (efS A (dg (A 2 + 1) (A 3) t))) μ2 ν := t_X9_layStands_208 ⟨_, c1, by rw [n_inc]; exact j2⟩
      refine ⟨τ, ν, t_X5_find_67 ⟨fun y => absurd y nle, fun _ => ⟨_, _, hwo, fun y => absurd y hb, fun _ => ⟨σ2, ?_, by rw [n_inc]; exact j1⟩⟩⟩, ref ν ⟨fun _ => e208, fun y => ⟨fun y2 => ?_, fun y2 => ⟨fun y3 => ?_, fun _ => e208⟩⟩⟩, j3⟩
      · rw [hx'.1.2.2.1]; exact t1
      · rcases hr with r | r
        · exact absurd r y
        · exact absurd r.1 y2
      · rcases hr with r | r
        · exact absurd r y
        · exact absurd y3 r.2
    have leave : (nI (16 * fuS A (dg (A 2 + 1) (A 3) t)) - nI (efS A (dg (A 2 + 1) (A 3) t)) ≤ σ'.1 29 4) → ¬ ((μ'.1 0 15) < nI (fuS A (dg (A 2 + 1) (A 3) t)) ∨ (nI (fuS A (dg (A 2 + 1) (A 3) t)) = μ'.1 0 15 ∧ ¬ (μ'.1 0 16) ≤ nI (efS A (dg (A 2 + 1) (A 3) t)))) → (∀ σ2 μ2, fr [31, 32] σ' σ2 → fr [7, 11] μ' μ2 → bst A (t + 1) σ2 μ2) → ∃ τ ν, E_X5_find_67 (nI ((A 2 + 1) ^ A 3)) (nI t) σ' τ ∧ E_X9_layStands_40 (nI (A 2 + 1)) (nI ((A 2 + 1) ^ A 3)) (nI t) μ' ν ∧ fr [29, 31, 32, 33] σ τ ∧ fr LMs μ ν ∧ ν.1 0 3 = μ.1 0 3 ∧ ν.1 0 12 = μ.1 0 12 ∧ τ.1 29 5 = nI (A 2) ∧ bst A ((A 2 + 1) ^ A 3) τ ν := by
      intro hb hr hk
      obtain ⟨σ2, t1, t2, t3⟩ := x_turnAll (t := t) hA2 hc.2.1 hc.2.2 g5 o
      obtain ⟨τ, ν, j1, j2, j3⟩ := ih σ2 μ2 (fr_tr f1 (fr_mo t2 (by decide))) (by rw [(t2 29 (by decide)).1]; exact g5) (fr_tr f2 (fr_mo f7 (by decide))) (by rw [(f7 0 (by decide)).1]; exact z3) (by rw [(f7 0 (by decide)).1]; exact z12) t3 (hk σ2 μ2 t2 f7)
      refine ⟨τ, ν, t_X5_find_67 ⟨fun y => absurd y nle, fun _ => ⟨_, _, hwo, fun _ => ⟨σ2, ?_, by rw [n_inc]; exact j1⟩, fun y => absurd hb y⟩⟩, ref ν ⟨fun y => absurd (Or.inl y) hr, fun y => ⟨fun _ => by rw [n_inc]; exact j2, fun y2 => ⟨fun _ => by rw [n_inc]; exact j2, fun y3 => absurd (Or.inr ⟨y2, y3⟩) hr⟩⟩⟩, j3⟩
      rw [hx'.1.2.2.1]; exact t1
    rcases b with ⟨t0, b4, b5⟩ | ⟨Q, q0, q1, q2, q3, q4⟩
    · refine take ?_ (Or.inl ?_)
      · rw [b4]; exact w_16 hF hE
      · rw [b5, lt_I, n_T (by omega), show (-1 : Int32).toInt = -1 from rfl]; omega
    · have hF' := fuS_le (P := Q) hW
      have hE' := efS_le (P := Q) hW q0
      have cx := w_cmp hF hE hF' hE'
      have cm : ((μ'.1 0 15) < nI (fuS A (dg (A 2 + 1) (A 3) t)) ∨ (nI (fuS A (dg (A 2 + 1) (A 3) t)) = μ'.1 0 15 ∧ ¬ (μ'.1 0 16) ≤ nI (efS A (dg (A 2 + 1) (A 3) t)))) ↔ (fuS A Q < fuS A (dg (A 2 + 1) (A 3) t) ∨ (fuS A (dg (A 2 + 1) (A 3) t) = fuS A Q ∧ efS A (dg (A 2 + 1) (A 3) t) < efS A Q)) := by
        rw [q2, q3, n_lt (by omega) (by omega), nI_eq (by omega) (by omega), n_le (by omega) (by omega), Nat.not_le]
      by_cases q : fuS A Q < fuS A (dg (A 2 + 1) (A 3) t) ∨ (fuS A (dg (A 2 + 1) (A 3) t) = fuS A Q ∧ efS A (dg (A 2 + 1) (A 3) t) < efS A Q)
      · refine take ?_ (cm.mpr q)
        rw [q1, cx]; exact fun y => y q
      · refine leave ?_ (fun y => q (cm.mp y)) (fun σ2 μ2 e1 e2 => Or.inr ⟨Q, q0, ?_, ?_, ?_, fun i hi => ?_⟩)
        · rw [q1, cx]; exact q
        · rw [(e1 29 (by decide)).1]; exact q1
        · rw [(e2 0 (by decide)).1]; exact q2
        · rw [(e2 0 (by decide)).1]; exact q3
        · rw [(e1 33 (by decide)).1, (e2 12 (by decide)).1]; exact q4 i hi
theorem crw0 {n f : Nat} : crw n (fun _ => 0) f = if f = 0 then 2 ^ n - 1 else 0 := by
  apply Nat.eq_of_testBit_eq
  intro i
  have e : (crw n (fun _ => 0) f).testBit i = (decide (i < n) && decide (0 = f)) := orF_bit _ _ _
  rw [e]
  by_cases q : f = 0
  · rw [if_pos q, q, Nat.testBit_two_pow_sub_one]; simp
  · rw [if_neg q]; simp [show ¬ 0 = f from fun c => q c.symm]
theorem q_stands {a : Int32} {σ μ : kS} (h : Inv σ μ) : ∃ x τ ν, R_X8_stands a σ x τ ∧ R_X9_stands a μ x ν ∧ Inv τ ν := by
  obtain ⟨A, i1, i2, i3, i4, i5⟩ := id h
  have hW := i1.1
  have hc := wfc hW
  obtain ⟨ea, fa⟩ := I1_s i1 a
  by_cases qa : a = -1 ∨ ∃ k, k < A 3 ∧ a = nI k
  · have gx : ∀ {x τ}, E_X8_stands_15 a σ x τ → R_X8_stands a σ x τ := fun z => t_X8_stands ⟨fun _ => z, fun y => ⟨fun _ => z, fun y2 => by
      rcases qa with r | r
      · exact absurd r y
      · exact absurd (ea.mpr r) y2⟩⟩
    have gm : ∀ {x ν}, E_X9_stands_15 a μ x ν → R_X9_stands a μ x ν := fun z => t_X9_stands ⟨fun _ => z, fun y => ⟨fun _ => z, fun y2 => by
      rcases qa with r | r
      · exact absurd r y
      · exact absurd (fa.mpr r) y2⟩⟩
    by_cases qt : 0 < A 1
    · have hA2 : 1 ≤ A 2 ∧ 1 ≤ A 3 := by have := hW.2.2.1; omega
      have hp5 : 2 ^ A 3 ≤ 2 ^ 5 := Nat.pow_le_pow_right (by decide) (by omega)
      have hB : (A 2 + 1) ^ A 3 ≤ 6 ^ 5 := Nat.le_trans (Nat.pow_le_pow_left (by omega) _) (Nat.pow_le_pow_right (by decide) (by omega))
      have hB1 : 0 < (A 2 + 1) ^ A 3 := Nat.pow_pos (by omega)
      -- the class begins
      have f0 : fr [29] σ (k_si σ 29 5 (nI (A 2))) := fr_si (by decide)
      obtain ⟨s1, w1, w2, w3⟩ := x_weigh (σ := k_si σ 29 5 (nI (A 2))) (vx_kp i1.2.2.1 (fun k a b => (f0 k (by simp; omega)).1)) (CT_o (i1.2.2.2.2 qt) (f0 25 (by decide)).1 (f0 26 (by decide)).1) hW
      let s3 : kS := k_fi (k_fi s1 31 5 0) 32 6 0
      let s4 : kS := k_si (k_si s3 32 0 (nI (2 ^ A 3 - 1))) 29 4 (-16)
      have fA : fr LXs σ s1 := fr_tr (fr_mo f0 (by decide)) (fr_mo w2 (by decide))
      have fB : fr [29, 31, 32, 33] s1 s4 := fr_tr (fr_tr (fr_tr (fr_fi (by decide)) (fr_fi (by decide))) (fr_si (by decide))) (fr_si (by decide))
      have hx1 : vx 3 s1 A := vx_kp i1.2.2.1 (fun k a b => (fA k (by simp [LXs]; omega)).1)
      have e295 : s1.1 29 5 = nI (A 2) := by rw [(w2 29 (by decide)).1, k_si_at]
      have e4 : s4.1 29 5 = nI (A 2) := by
        rw [← e295]; simp [s4, s3, s_i, k_fi]
      have dg0 : ∀ i, dg (A 2 + 1) (A 3) 0 i = 0 := fun i => by unfold dg; rw [Nat.zero_div, Nat.zero_mod]
      have o4 : ODs (A 2) (A 3) (dg (A 2 + 1) (A 3) 0) s4 := by
        refine ODs_co (P := fun _ => 0) ⟨fun i hi => ?_, fun f hf => ?_⟩ (fun i _ => (dg0 i).symm)
        · rw [nI_0]; simp [s4, s3, s_i, k_fi, show i < 5 by omega]
        · rw [crw0]
          by_cases q : f = 0
          · rw [if_pos q, q]; simp [s4, s_i]
          · rw [if_neg q, nI_0]; simp [s4, s3, s_i, k_fi, q, show f < 6 by omega]
      have b4 : bst A 0 s4 (k_si μ 0 15 (-1)) := Or.inl ⟨rfl, k_si_at, k_si_at⟩
      have fM : fr LMs μ (k_si μ 0 15 (-1)) := fr_si (by decide)
      obtain ⟨τ, ν, j1, j2, j3, j4, j5, j6, j7, j8⟩ := p_stand hW qt hx1 i1.2.2.2.1 w3 e295 0 (Nat.zero_le _) s4 (k_si μ 0 15 (-1)) fB e4 fM (by rw [s_i, if_pos rfl, if_neg (by decide)]) (by rw [s_i, if_pos rfl, if_neg (by decide)]) o4 b4
      have hfind : R_X5_find σ τ := by
        refine t_X5_find ⟨s1, by rw [i1.2.2.1.1.2.1]; exact w1, _, x_fill rfl (by decide), _, x_fill rfl (by decide), nI ((A 2 + 1) ^ A 3), s4, ?_, j1⟩
        have v1 : s3.1 29 5 = nI (A 2) := by rw [← e295]; simp [s3, k_fi]
        have v2 : s3.1 3 2 = nI (A 3) := by rw [← hx1.1.2.2.1]; simp [s3, k_fi]
        show R_X8_power (s3.1 29 5 + 1) (s3.1 3 2) (k_si (k_si s3 32 0 (((1 : Int32) <<< (s3.1 3 2 &&& 31)) - 1)) 29 4 (-16)) _ s4
        rw [v1, v2, n_one _ (by omega), n_inc, show nI (2 ^ A 3) - 1 = nI (2 ^ A 3 - 1) by rw [show (1 : Int32) = nI 1 from rfl, pk_sub (Nat.pow_pos (by decide))]]
        exact x_power (by omega)
      have hlay : R_X9_layStands μ ν := by
        have e52 : μ.1 5 2 = nI (A 2) := mr_n i1.2.2.2.1 (by decide)
        have e53 : μ.1 5 3 = nI (A 3) := mr_n i1.2.2.2.1 (by decide)
        have k13 : ∀ i, i ≤ A 3 → E_X9_layStands_13 (nI (A 2 + 1)) (nI ((A 2 + 1) ^ i)) (nI i) μ ν := by
          refine loop_up (A 3) ?_ (fun i hi ih => ?_)
          · exact t_X9_layStands_13 ⟨fun _ => j2, fun z => absurd (by rw [e53]; exact Int32.le_refl _) z⟩
          · refine t_X9_layStands_13 ⟨fun z => absurd z (by rw [e53]; exact nI_ge hi (by omega)), fun _ => ?_⟩
            rw [pk_mul, n_inc, ← Nat.pow_succ]; exact ih
        refine t_X9_layStands ?_
        rw [e52, n_inc]
        exact k13 0 (Nat.zero_le _)
      have hI : Inv τ ν := Inv_kp h (fr_tr (fr_mo fA (by decide)) (fr_mo j3 (by decide))) (fr_mo j4 (by decide)) j5 j6
      rcases j8 with ⟨z, -⟩ | ⟨P, q0, q1, q2, q3, q4⟩
      · omega
      · have hF := fuS_le (P := P) hW
        have hE := efS_le (P := P) hW q0
        by_cases qm : a = -1
        · refine ⟨nI (fuS A P), τ, ν, gx (t_X8_stands_15 ⟨fun _ => ⟨τ, hfind, fun y => absurd qm y, fun _ => ⟨_, _, t_X5_fullFields ⟨rfl, rfl⟩, ?_, rfl⟩⟩, fun y => absurd ((I1_th i1).mpr qt) y⟩), gm (t_X9_stands_15 ⟨fun _ => ⟨ν, hlay, fun y => absurd qm y, fun _ => ⟨q2.symm, rfl⟩⟩, fun y => absurd ((I1_tm i1).mpr qt) y⟩), hI⟩
          rw [q1, show nI (16 * fuS A P) - nI (efS A P) + 16 - 1 = nI (16 * fuS A P + 16 - (efS A P + 1)) by
            rw [← pk_sub (by omega), ← nI_add, ← nI_add, ← show (16 : Int32) = nI 16 from rfl, ← show (1 : Int32) = nI 1 from rfl, ← sub4, Int32.sub_eq_add_neg (nI (16 * fuS A P) - nI (efS A P) + 16), Int32.sub_eq_add_neg 16, Int32.add_assoc]]
          rw [show (16 : Int32) = nI 16 from rfl, pk_div (by omega) (by decide) (by decide)]
          exact congrArg _ (by omega)
        · obtain ⟨i, hi, rfl⟩ : ∃ k, k < A 3 ∧ a = nI k := by
            rcases qa with r | r
            · exact absurd r qm
            · exact r
          obtain ⟨v1, v2⟩ := q4 i hi
          have hPi := q0 i
          have hin : vp_in (nI i) 5 := n_in (by omega) (by decide)
          have eqP : (nI (P i) = nI (A 2) ↔ P i = A 2) := nI_eq (by omega) (by omega)
          by_cases qp : P i = A 2
          · rw [if_pos qp] at v2
            refine ⟨-4, τ, ν, gx (t_X8_stands_15 ⟨fun _ => ⟨τ, hfind, fun _ => ⟨-1, τ, t_X5_bestPlace ⟨hin, ?_⟩, rfl, rfl⟩, fun y => absurd y qm⟩, fun y => absurd ((I1_th i1).mpr qt) y⟩), gm (t_X9_stands_15 ⟨fun _ => ⟨ν, hlay, fun _ => ⟨hin, ?_, rfl⟩, fun y => absurd y qm⟩, fun y => absurd ((I1_tm i1).mpr qt) y⟩), hI⟩
            · rw [n_N (by omega), v1, j7]
              exact ⟨fun y => absurd (eqP.mpr qp) y, fun _ => ⟨rfl, rfl⟩⟩
            · rw [n_N (by omega), v2]
          · rw [if_neg qp] at v2
            refine ⟨nI (P i), τ, ν, gx (t_X8_stands_15 ⟨fun _ => ⟨τ, hfind, fun _ => ⟨nI (P i), τ, t_X5_bestPlace ⟨hin, ?_⟩, ?_, rfl⟩, fun y => absurd y qm⟩, fun y => absurd ((I1_th i1).mpr qt) y⟩), gm (t_X9_stands_15 ⟨fun _ => ⟨ν, hlay, fun _ => ⟨hin, ?_, rfl⟩, fun y => absurd y qm⟩, fun y => absurd ((I1_tm i1).mpr qt) y⟩), hI⟩
            · rw [n_N (by omega), v1, j7]
              exact ⟨fun _ => ⟨hin, rfl, rfl⟩, fun y => absurd (eqP.mp y) qp⟩
            · unfold tP; rw [if_neg (nb_m1 (by omega))]
            · rw [n_N (by omega), v2]
    · exact ⟨-2, σ, μ, gx (t_X8_stands_15 ⟨fun y => absurd ((I1_th i1).mp y) qt, fun _ => ⟨rfl, rfl⟩⟩), gm (t_X9_stands_15 ⟨fun y => absurd ((I1_tm i1).mp y) qt, fun _ => ⟨rfl, rfl⟩⟩), h⟩
  · have n1 : ¬ a = -1 := fun c => qa (Or.inl c)
    have n2 : ¬ ∃ k, k < A 3 ∧ a = nI k := fun c => qa (Or.inr c)
    exact ⟨-1, σ, μ, t_X8_stands ⟨fun y => absurd y n1, fun _ => ⟨fun y => absurd (ea.mp y) n2, fun _ => ⟨rfl, rfl⟩⟩⟩, t_X9_stands ⟨fun y => absurd y n1, fun _ => ⟨fun y => absurd (fa.mp y) n2, fun _ => ⟨rfl, rfl⟩⟩⟩, h⟩
