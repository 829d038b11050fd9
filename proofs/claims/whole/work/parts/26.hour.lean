/-! all sing; an hour passes -/
theorem siI_0 {A : Nat → Nat} {n w : Nat} : siI A n w = 0 ↔ ful A n w = true := by
  unfold siI ful
  cases hc : (chd A n).isSome with
  | false => simp
  | true => rw [if_pos rfl, n_eq0 (by have := sm_lt (A := A) n w (A 3); omega)]; simp
def sgP (A : Nat → Nat) (f i : Nat) : Nat := if i < A 3 ∧ A (33 + i) < f then sng A (A (8 + A (33 + i))) (who A (A (33 + i))) i else 12
theorem sgP_e {A : Nat → Nat} {i : Nat} (hi : i < A 3) : sgP A (A 2) i = sgA A i := by
  unfold sgP sgA
  by_cases h : A (33 + i) < A 2
  · rw [if_pos ⟨hi, h⟩, if_pos h]
  · rw [if_neg (fun q => h q.2), if_neg h]
theorem who_bit {A : Nat → Nat} {f i : Nat} : (who A f).testBit i = true ↔ i < A 3 ∧ A (33 + i) = f := by
  unfold who; rw [orF_bit]; simp
theorem sgP_s {A : Nat → Nat} {f i : Nat} : sgP A (f + 1) i = if i < A 3 ∧ (who A f).testBit i = true then sng A (A (8 + f)) (who A f) i else sgP A f i := by
  unfold sgP
  by_cases h : i < A 3 ∧ (who A f).testBit i = true
  · rw [if_pos h]
    obtain ⟨h1, h2⟩ := who_bit.mp h.2
    rw [if_pos ⟨h1, by omega⟩, h2]
  · rw [if_neg h]
    by_cases h3 : i < A 3 ∧ A (33 + i) < f
    · rw [if_pos h3, if_pos ⟨h3.1, by omega⟩]
    · rw [if_neg h3, if_neg]
      intro q
      refine h ⟨q.1, who_bit.mpr ⟨q.1, ?_⟩⟩
      have : ¬ A (33 + i) < f := fun z => h3 ⟨q.1, z⟩
      omega
theorem x_singAll {v : Nat} {σ : kS} {A : Nat → Nat} (hv : k_vly v = true) (h : vx v σ A) (hT : CT σ A) (hW : WF A) : ∃ τ, R_X1_singAll v σ (nI (fuA A)) τ ∧ fr [28] σ τ ∧ ∀ i, i < 5 → τ.1 28 i = nI (sgP A (A 2) i) := by
  have h2 := (wfc hW).2.1
  have h3 := (wfc hW).2.2
  have key : ∀ f, f ≤ A 2 → ∀ σ', fr [28] σ σ' → (∀ i, i < 5 → σ'.1 28 i = nI (sgP A f i)) → ∃ τ, E_X1_singAll_13 v (nI (orF f (fun f => ful A (A (8 + f)) (who A f)))) (nI f) σ' (nI (fuA A)) τ ∧ fr [28] σ τ ∧ ∀ i, i < 5 → τ.1 28 i = nI (sgP A (A 2) i) := by
    refine loop_up (A 2) (fun σ' h1 hs => ?_) (fun f hf ih σ' h1 hs => ?_)
    · refine ⟨σ', t_X1_singAll_13 hv ⟨fun _ => ⟨rfl, rfl⟩, fun q => absurd ?_ q⟩, h1, hs⟩
      rw [(vx_o (c := 28) hv h h1).1.2.1]; exact Int32.le_refl _
    · have hx := vx_o (c := 28) hv h h1
      have hT1 : CT σ' A := CT_o hT (h1 25 (by simp)).1 (h1 26 (by simp)).1
      have hu : fr [28] σ' (xsU A (A (8 + f)) (who A f) σ') := fr_up (by simp)
      obtain ⟨τ, i1, i2, i3⟩ := ih (xsU A (A (8 + f)) (who A f) σ') (fr_tr h1 hu) (fun i hi => by
        rw [sgP_s]
        simp only [xsU, k_up, true_and]
        split
        · rfl
        · exact hs i hi)
      refine ⟨τ, t_X1_singAll_13 hv ⟨fun q => absurd ((n_le (by omega) (by omega)).mp (hx.1.2.1 ▸ q)) (by omega), fun _ => ⟨_, _, x_standing hv hx hW (by omega), _, _, x_sing hv hx hT1 hW hf (who_lt hW f), ?_⟩⟩, i2, i3⟩
      rw [bN_0, n_inc, n_one _ (by omega), n_or]
      refine ⟨fun q => ?_, fun q => ?_⟩
      · rw [orF_f (P := fun f => ful A (A (8 + f)) (who A f)) q] at i1; exact i1
      · rw [orF_t (P := fun f => ful A (A (8 + f)) (who A f)) ((Bool.not_eq_false _).mp q)] at i1; exact i1
  obtain ⟨τ, i1, i2, i3⟩ := key 0 (Nat.zero_le _) (k_fi σ 28 5 12) (fr_fi (by simp)) (fun i hi => by
    simp only [k_fi, true_and, if_pos hi, sgP]
    rw [if_neg (by omega)]; rfl)
  exact ⟨τ, t_X1_singAll hv ⟨_, x_fill rfl (by decide), i1⟩, i2, i3⟩
theorem m_hush {σ : kS} : R_X9_hush σ (k_fi σ 11 5 12) := by
  refine t_X9_hush ?_
  have key : ∀ i, i ≤ 5 → E_X9_hush_2 (nI i) (k_fi σ 11 i 12) (k_fi σ 11 5 12) := by
    refine loop_up 5 ?_ (fun i hi ih => ?_)
    · exact t_X9_hush_2 ⟨fun _ => rfl, fun c => absurd (Int32.le_refl _) c⟩
    · refine t_X9_hush_2 ⟨fun c => absurd ((n_le (a := 5) (by decide) (by omega)).mp c) (by omega), fun _ => ⟨n_in hi (by decide), ?_⟩⟩
      rw [n_N (by omega), k_fi_s, n_inc]
      exact ih
  have := key 0 (Nat.zero_le _)
  rw [k_fi_0, nI_0] at this
  exact this
theorem m_singAll {r : Nat} {σ : kS} {A : Nat → Nat} (hr : k_is SM r 1 38 = true) (h11 : r ≠ 11) (h : mr r σ A) (hW : WF A) : ∃ τ, R_X9_singAll r σ (nI (fuA A)) τ ∧ fr [11] σ τ ∧ ∀ i, i < 5 → τ.1 11 i = nI (sgP A (A 2) i) := by
  have h2 := (wfc hW).2.1
  have h3 := (wfc hW).2.2
  have hmr : ∀ σ', fr [11] σ σ' → mr r σ' A := fun σ' q => mr_kp h (q r (by simpa using h11)).1
  have key : ∀ f, f ≤ A 2 → ∀ σ', fr [11] σ σ' → (∀ i, i < 5 → σ'.1 11 i = nI (sgP A f i)) → ∃ τ, E_X9_singAll_8 r (nI (orF f (fun f => ful A (A (8 + f)) (who A f)))) (nI f) σ' (nI (fuA A)) τ ∧ fr [11] σ τ ∧ ∀ i, i < 5 → τ.1 11 i = nI (sgP A (A 2) i) := by
    refine loop_up (A 2) (fun σ' h1 hs => ?_) (fun f hf ih σ' h1 hs => ?_)
    · refine ⟨σ', t_X9_singAll_8 hr ⟨fun _ => ⟨rfl, rfl⟩, fun q => absurd ?_ q⟩, h1, hs⟩
      rw [mr_n (hmr σ' h1) (by decide)]; exact Int32.le_refl _
    · have hx := hmr σ' h1
      have hu : fr [11] σ' (siU A (A (8 + f)) (who A f) σ') := fr_up (by simp)
      obtain ⟨τ, i1, i2, i3⟩ := ih (siU A (A (8 + f)) (who A f) σ') (fr_tr h1 hu) (fun i hi => by
        rw [sgP_s]
        simp only [siU, k_up, true_and]
        cases hc : chd A (A (8 + f)) with
        | none =>
          rw [if_neg (by simp)]
          split
          · rename_i q
            have e : sng A (A (8 + f)) (who A f) i = 12 := by
              unfold sng
              split
              · exact sv_12 hc
              · rfl
            rw [e, hs i hi]
            unfold sgP
            rw [if_neg]
            intro z
            have := (who_bit.mp q.2).2
            omega
          · exact hs i hi
        | some c =>
          simp only [Option.isSome_some, if_true]
          by_cases q : i < A 3 ∧ act A (who A f) i = true
          · rw [if_pos q, if_pos ⟨q.1, by have := q.2; unfold act at this; simp at this; exact this.1⟩]
            unfold sng; rw [if_pos q.2]
          · rw [if_neg q, hs i hi]
            split
            · rename_i z
              have ha : act A (who A f) i = false := (Bool.not_eq_true _).mp (fun y => q ⟨z.1, y⟩)
              unfold sng
              rw [ha]
              unfold sgP
              rw [if_neg]
              · rfl
              · intro y
                have := (who_bit.mp z.2).2
                omega
            · rfl)
      refine ⟨τ, t_X9_singAll_8 hr ⟨fun q => absurd ((n_le (by omega) (by omega)).mp (mr_n hx (show 2 < 33 by decide) ▸ q)) (by omega), fun _ => ⟨_, _, m_whoAt hr hx hW (by omega), _, _, m_singIn hr h11 hx hW hf (who_lt hW f), ?_⟩⟩, i2, i3⟩
      rw [siI_0, n_inc, n_one _ (by omega), n_or, or_0]
      refine ⟨fun q => ?_, fun q => ?_⟩
      · rw [orF_f (P := fun f => ful A (A (8 + f)) (who A f)) ((Bool.not_eq_true _).mp q)] at i1; exact i1
      · rw [orF_t (P := fun f => ful A (A (8 + f)) (who A f)) q] at i1; exact i1
  obtain ⟨τ, i1, i2, i3⟩ := key 0 (Nat.zero_le _) (k_fi σ 11 5 12) (fr_fi (by simp)) (fun i hi => by
    simp only [k_fi, true_and, if_pos hi, sgP]
    rw [if_neg (by omega)]; rfl)
  exact ⟨τ, t_X9_singAll hr ⟨_, m_hush, i1⟩, i2, i3⟩
/-! an hour -/
theorem hrA_o {A : Nat → Nat} {j : Nat} (h0 : j ≠ 0) (h : j < 28 ∨ 28 + A 3 ≤ j) : hrA A j = A j := by
  unfold hrA; rw [if_neg h0, if_neg (by omega)]
theorem hrA_t {A : Nat → Nat} {i : Nat} (hi : i < A 3) : hrA A (28 + i) = if sgA A i = 12 then A (28 + i) - 1 else A (28 + i) + eff (A (13 + i)) := by
  unfold hrA
  rw [if_neg (by omega), if_pos (by omega), show 28 + i - 28 = i by omega, show 28 + i - 15 = 13 + i by omega]
theorem eff_le (k : Nat) : eff k ≤ 3 := by
  unfold eff
  match k with
  | 0 => decide
  | 1 => decide
  | 2 => decide
  | 3 => decide
  | 4 => decide
  | 5 => decide
  | k + 6 => simp
theorem sgA_act {A : Nat → Nat} {i : Nat} (h : sgA A i ≠ 12) : A (28 + i) < 8 := by
  unfold sgA at h
  split at h
  · unfold sng at h
    split at h
    · rename_i q
      unfold act at q; simp at q; exact q.2
    · exact absurd rfl h
  · exact absurd rfl h
theorem hrA_wf {A : Nat → Nat} (h : WF A) (h0 : A 0 < 20000) : WF (hrA A) := by
  have h3 := (wfc h).2.2
  have e1 : hrA A 1 = A 1 := hrA_o (by decide) (by omega)
  have e2 : hrA A 2 = A 2 := hrA_o (by decide) (by omega)
  have e3 : hrA A 3 = A 3 := hrA_o (by decide) (by omega)
  unfold WF
  rw [e1, e2, e3]
  have h1 := (wfc h).1
  have h2 := (wfc h).2.1
  refine ⟨by unfold hrA; rw [if_pos rfl]; omega, h.2.1, h.2.2.1, fun i hi => ?_, fun i hi => ?_, fun i hi => ?_⟩
  · rw [hrA_o (by omega) (by omega)]; exact h.2.2.2.1 i hi
  · rw [hrA_o (by omega) (by omega)]; exact h.2.2.2.2.1 i hi
  · rw [hrA_o (show 13 + i ≠ 0 by omega) (by omega), hrA_o (show 18 + i ≠ 0 by omega) (by omega), hrA_o (show 23 + i ≠ 0 by omega) (by omega), hrA_o (show 33 + i ≠ 0 by omega) (by omega), hrA_t hi]
    obtain ⟨a, b, c, d⟩ := h.2.2.2.2.2 i hi
    refine ⟨a, b, ?_, d⟩
    split
    · omega
    · rename_i q
      have := sgA_act q
      have := eff_le (A (13 + i))
      omega
theorem n_mx0 {t : Nat} (h : t < 2 ^ 31) : mx 0 (nI t) = nI t := by
  unfold mx
  by_cases q : (0 : Int32) < nI t
  · rw [if_pos q]
  · rw [if_neg q]
    have := mt (n_lt (a := 0) (by decide) h).mpr q
    rw [show t = 0 by omega]; rfl
theorem n_mx1 {t : Nat} (h : t < 2 ^ 31) : mx 0 (nI t + -1) = nI (t - 1) := by
  cases t with
  | zero => decide +kernel
  | succ t => rw [n_dec]; exact n_mx0 (by omega)
theorem n_ef {k : Nat} (h : k ≤ 5) : k_tEF k = nI (eff k) := by
  match k, h with
  | 0, _ => rfl
  | 1, _ => rfl
  | 2, _ => rfl
  | 3, _ => rfl
  | 4, _ => rfl
  | 5, _ => rfl
theorem sg12 {n : Nat} (h : n ≤ 12) : nI n = 12 ↔ n = 12 := nI_eq (b := 12) (by omega) (by decide)
theorem x_passHour {v : Nat} {σ : kS} {A : Nat → Nat} (hv : k_vly v = true) (h : vx v σ A) (hT : CT σ A) (hW : WF A) (h0 : A 0 < 20000) : ∃ τ, R_X1_passHour v σ (nI (fuA A)) τ ∧ vx v τ (hrA A) ∧ fr [28, v, v + 7] σ τ := by
  have h2 := (wfc hW).2.1
  have h3 := (wfc hW).2.2
  have hvc := vl_c hv
  obtain ⟨σ1, s1, s2, s3⟩ := x_singAll hv h hT hW
  have hx1 := vx_o (c := 28) hv h s2
  have key : ∀ i, i ≤ A 3 → ∀ σ', fr [v + 7] σ1 σ' → (∀ k, k < A 3 → σ'.1 (v + 7) k = nI (if k < i then hrA A (28 + k) else A (28 + k))) → ∃ τ, E_X1_passHour_8 v (nI (fuA A)) (nI i) σ' (nI (fuA A)) τ ∧ vx v τ (hrA A) ∧ fr [28, v, v + 7] σ τ := by
    refine loop_up (A 3) (fun σ' g1 g2 => ?_) (fun i hi ih σ' g1 g2 => ?_)
    · have hc : ∀ k, k ≠ v + 7 → σ'.1 k = σ1.1 k := fun k hk => (g1 k (by simpa using hk)).1
      refine ⟨k_si σ' v 3 (nI (A 0) + 1), t_X1_passHour_8 hv ⟨fun _ => ⟨rfl, ?_⟩, fun q => absurd ?_ q⟩, ?_, ?_⟩
      · rw [hc v (by omega), hx1.1.2.2.2]
      · rw [hc v (by omega), hx1.1.2.2.1]; exact Int32.le_refl _
      · have h1 := (wfc hW).1
        unfold vx
        rw [hrA_o (A := A) (j := 1) (by decide) (by omega), hrA_o (A := A) (j := 2) (by decide) (by omega), hrA_o (A := A) (j := 3) (by decide) (by omega)]
        have e : ∀ k, k ≠ v → (k_si σ' v 3 (nI (A 0) + 1)).1 k = σ'.1 k := fun k hk => k_si_o hk
        rw [e (v + 1) (by omega), e (v + 2) (by omega), e (v + 3) (by omega), e (v + 4) (by omega), e (v + 5) (by omega), e (v + 6) (by omega), e (v + 7) (by omega), hc (v + 1) (by omega), hc (v + 2) (by omega), hc (v + 3) (by omega), hc (v + 4) (by omega), hc (v + 5) (by omega), hc (v + 6) (by omega)]
        refine ⟨⟨?_, ?_, ?_, ?_⟩, fun i hi => ?_, fun i hi => ?_, fun i hi => ?_⟩
        · rw [k_si_s, upd, if_neg (by decide), hc v (by omega)]; exact hx1.1.1
        · rw [k_si_s, upd, if_neg (by decide), hc v (by omega)]; exact hx1.1.2.1
        · rw [k_si_s, upd, if_neg (by decide), hc v (by omega)]; exact hx1.1.2.2.1
        · rw [k_si_s, upd, if_pos rfl, n_inc]; unfold hrA; rw [if_pos rfl]
        · rw [hrA_o (by omega) (by omega)]; exact hx1.2.1 i hi
        · rw [hrA_o (by omega) (by omega)]; exact hx1.2.2.1 i hi
        · rw [hrA_o (show 13 + i ≠ 0 by omega) (by omega), hrA_o (show 18 + i ≠ 0 by omega) (by omega), hrA_o (show 23 + i ≠ 0 by omega) (by omega), hrA_o (show 33 + i ≠ 0 by omega) (by omega), g2 i hi, if_pos hi]
          obtain ⟨a, b, c, d, e⟩ := hx1.2.2.2 i hi
          exact ⟨a, b, c, rfl, e⟩
      · refine fr_tr (fr_mo s2 (by simp)) (fr_tr (fr_mo g1 (by simp)) (fr_si (by simp)))
    · have hc : ∀ k, k ≠ v + 7 → σ'.1 k = σ1.1 k := fun k hk => (g1 k (by simpa using hk)).1
      obtain ⟨hk, hlh, ht, hp⟩ := hW.2.2.2.2.2 i hi
      obtain ⟨τ, i1, i2, i3⟩ := ih (k_si σ' (v + 7) i (nI (hrA A (28 + i)))) (fr_tr g1 (fr_si (by simp))) (fun k hk => by
        rw [k_si_s, upd]
        by_cases e : k = i
        · rw [if_pos e, if_pos (by omega), e]
        · rw [if_neg e, g2 k hk]
          by_cases q : k < i
          · rw [if_pos q, if_pos (by omega)]
          · rw [if_neg q, if_neg (by omega)])
      refine ⟨τ, t_X1_passHour_8 hv ⟨fun q => absurd q ?_, fun _ => ⟨n_in (by omega) (by decide), ?_⟩⟩, i2, i3⟩
      · rw [hc v (by omega), hx1.1.2.2.1, n_le (by omega) (by omega)]; omega
      · have hsg : σ'.1 28 i = nI (sgA A i) := by rw [hc 28 (by omega), s3 i (by omega), sgP_e hi]
        rw [n_N (by omega), hsg, sg12 (sgA_le A i), hc (v + 3) (by omega), (hx1.2.2.2 i hi).1, n_N (by omega), n_ef hk.2]
        have htr : σ'.1 (v + 7) i = nI (A (28 + i)) := by rw [g2 i hi, if_neg (by omega)]
        refine ⟨fun q => ⟨n_in (by omega) (by decide), n_in (by omega) (by decide), t_X1_passHour_41 hv ⟨n_in (by omega) (by decide), n_in (by omega) (by decide), ?_⟩⟩, fun q => t_X1_passHour_41 hv ⟨n_in (by omega) (by decide), n_in (by omega) (by decide), ?_⟩⟩
        · rw [n_N (by omega), htr, nI_add, n_mx0 (by have := eff_le (A (13 + i)); omega), n_inc]
          rw [hrA_t hi, if_neg q] at i1
          exact i1
        · rw [n_N (by omega), htr, n_mx1 (by omega), n_inc]
          rw [hrA_t hi, if_pos q] at i1
          exact i1
  obtain ⟨τ, i1, i2, i3⟩ := key 0 (Nat.zero_le _) σ1 fr_rf (fun k hk => by rw [if_neg (by omega)]; exact (hx1.2.2.2 k hk).2.2.2.1)
  exact ⟨τ, t_X1_passHour hv ⟨_, _, s1, i1⟩, i2, i3⟩
theorem m_tires {k : Nat} {σ : kS} (h : 1 ≤ k ∧ k ≤ 5) : R_X9_tires (nI k) σ (nI (eff k)) σ := by
  refine t_X9_tires ?_
  rw [n_T (by omega)]
  refine ⟨fun q => ⟨?_, rfl⟩, fun q => ⟨?_, rfl⟩, fun q => ⟨?_, rfl⟩, fun q => ⟨?_, rfl⟩, fun q => ⟨?_, rfl⟩⟩
  · obtain rfl : k = 2 := by omega
    rfl
  · obtain rfl : k = 3 := by omega
    rfl
  · obtain rfl : k = 4 := by omega
    rfl
  · obtain rfl : k = 5 := by omega
    rfl
  · obtain rfl : k = 1 := by omega
    rfl
theorem m_hourIn {r : Nat} {σ : kS} {A : Nat → Nat} (hr : k_is SM r 1 38 = true) (h11 : r ≠ 11) (h : mr r σ A) (hW : WF A) (h0 : A 0 < 20000) : ∃ τ, R_X9_hourIn r σ (nI (fuA A)) τ ∧ mr r τ (hrA A) ∧ fr [11, r] σ τ := by
  have h2 := (wfc hW).2.1
  have h3 := (wfc hW).2.2
  obtain ⟨σ1, s1, s2, s3⟩ := m_singAll hr h11 h hW
  have hx1 : mr r σ1 A := mr_kp h (s2 r (by simpa using h11)).1
  have hvo : ∀ j, j ≠ 0 → (j < 28 ∨ 28 + A 3 ≤ j) → vI (hrA A) j = vI A j := fun j e1 e2 => by unfold vI; rw [hrA_o e1 e2]
  have hvt : ∀ i, i < A 3 → vI (hrA A) (28 + i) = nI (hrA A (28 + i)) := fun i hi => by unfold vI; rw [if_neg (by omega)]
  have key : ∀ i, i ≤ A 3 → ∀ σ', fr [r] σ1 σ' → (∀ k, k < 38 → σ'.1 r k = if 28 ≤ k ∧ k < 28 + i then vI (hrA A) k else vI A k) → ∃ τ, E_X9_hourIn_8 r (nI (fuA A)) (nI i) σ' (nI (fuA A)) τ ∧ mr r τ (hrA A) ∧ fr [11, r] σ τ := by
    refine loop_up (A 3) (fun σ' g1 g2 => ?_) (fun i hi ih σ' g1 g2 => ?_)
    · have e0 : σ'.1 r 0 = nI (A 0) := by rw [g2 0 (by decide), if_neg (by omega)]; rfl
      have e3 : σ'.1 r 3 = nI (A 3) := by rw [g2 3 (by decide), if_neg (by omega)]; rfl
      refine ⟨k_si σ' r 0 (nI (A 0) + 1), t_X9_hourIn_8 hr ⟨fun _ => ⟨rfl, by rw [e0]⟩, fun q => absurd (by rw [e3]; exact Int32.le_refl _) q⟩, fun k hk => ?_, fr_tr (fr_mo s2 (by simp)) (fr_tr (fr_mo g1 (by simp)) (fr_si (by simp)))⟩
      rw [k_si_s, upd]
      by_cases e : k = 0
      · rw [if_pos e, n_inc, e]; rfl
      · rw [if_neg e, g2 k hk]
        by_cases q : 28 ≤ k ∧ k < 28 + A 3
        · rw [if_pos q]
        · rw [if_neg q, hvo k e (by omega)]
    · obtain ⟨hk, hlh, ht, hp⟩ := hW.2.2.2.2.2 i hi
      have e3 : σ'.1 r 3 = nI (A 3) := by rw [g2 3 (by decide), if_neg (by omega)]; rfl
      have et : σ'.1 r (28 + i) = nI (A (28 + i)) := by rw [g2 _ (by omega), if_neg (by omega)]; unfold vI; rw [if_neg (by omega)]
      have ek : σ'.1 r (13 + i) = nI (A (13 + i)) := by rw [g2 _ (by omega), if_neg (by omega)]; unfold vI; rw [if_neg (by omega)]
      have hsg : σ'.1 11 i = nI (sgA A i) := by rw [(g1 11 (by simpa using (Ne.symm h11))).1, s3 i (by omega), sgP_e hi]
      obtain ⟨τ, i1, i2, i3⟩ := ih (k_si σ' r (28 + i) (nI (hrA A (28 + i)))) (fr_tr g1 (fr_si (by simp))) (fun k hk => by
        rw [k_si_s, upd]
        by_cases e : k = 28 + i
        · rw [if_pos e, if_pos (by omega), e, hvt i hi]
        · rw [if_neg e, g2 k hk]
          by_cases q : 28 ≤ k ∧ k < 28 + i
          · rw [if_pos q, if_pos (by omega)]
          · rw [if_neg q, if_neg (by omega)])
      have step : ∀ y : Int32, (sgA A i = 12 → nI (A (28 + i)) + y = nI (A (28 + i) - 1)) → E_X9_hourIn_29 r (nI (fuA A)) (nI i) y σ' (nI (fuA A)) τ := by
        intro y hy
        refine t_X9_hourIn_29 hr ?_
        rw [show (28 : Int32) = nI 28 from rfl, show (13 : Int32) = nI 13 from rfl, nI_add, nI_add, n_N (show i < 2 ^ 31 by omega), n_N (show 28 + i < 2 ^ 31 by omega), n_N (show 13 + i < 2 ^ 31 by omega), hsg, sg12 (sgA_le A i), et, ek, n_inc]
        refine ⟨n_in (by omega) (by decide), n_in (by omega) (by decide), fun q => ⟨n_in (by omega) (by decide), _, _, m_tires hk, n_in (by omega) (by decide), ?_⟩, fun q => ⟨n_in (by omega) (by decide), ?_⟩⟩
        · rw [nI_add]
          rw [hrA_t hi, if_neg q] at i1
          exact i1
        · rw [hy q]
          rw [hrA_t hi, if_pos q] at i1
          exact i1
      refine ⟨τ, t_X9_hourIn_8 hr ⟨fun q => absurd ((n_le (by omega) (by omega)).mp (e3 ▸ q)) (by omega), fun _ => ?_⟩, i2, i3⟩
      rw [show (28 : Int32) = nI 28 from rfl, nI_add, n_N (by omega), et]
      refine ⟨n_in (by omega) (by decide), fun q => step 0 (fun _ => ?_), fun q => step (-1) (fun _ => ?_)⟩
      · have := (n_le (b := 0) (by omega) (by decide)).mp q
        rw [show A (28 + i) = 0 by omega]; rfl
      · have := mt (n_le (a := A (28 + i)) (b := 0) (by omega) (by decide)).mpr q
        obtain ⟨t, ht⟩ : ∃ t, A (28 + i) = t + 1 := ⟨A (28 + i) - 1, by omega⟩
        rw [ht, n_dec]; rfl
  obtain ⟨τ, i1, i2, i3⟩ := key 0 (Nat.zero_le _) σ1 fr_rf (fun k hk => by rw [if_neg (by omega)]; exact hx1 k hk)
  exact ⟨τ, t_X9_hourIn hr ⟨_, _, s1, i1⟩, i2, i3⟩
theorem m_tiredOf {r : Nat} {σ : kS} {A : Nat → Nat} (hr : k_is SM r 1 38 = true) (h : mr r σ A) (hW : WF A) : R_X9_tiredOf r σ (nI (trd A)) σ := by
  refine t_X9_tiredOf hr ?_
  have h5 := (wfc hW).2.2
  have key : ∀ i, i ≤ A 3 → E_X9_tiredOf_4 r (nI (sumF i (fun i => A (28 + i)))) (nI i) σ (nI (trd A)) σ := by
    refine loop_up (A 3) ?_ (fun i hi ih => ?_)
    · exact t_X9_tiredOf_4 hr ⟨fun _ => ⟨rfl, rfl⟩, fun c => absurd (by rw [mr_n h (by decide)]; exact Int32.le_refl _) c⟩
    · refine t_X9_tiredOf_4 hr ⟨fun c => absurd ((n_le (by omega) (by omega)).mp (mr_n h (show 3 < 33 by decide) ▸ c)) (by omega), fun _ => ?_⟩
      rw [show (28 : Int32) = nI 28 from rfl, nI_add, n_N (by omega), mr_n h (show 28 + i < 33 by omega), n_inc, nI_add]
      exact ⟨n_in (by omega) (by decide), ih⟩
  exact key 0 (Nat.zero_le _)
