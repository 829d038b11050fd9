/-! answers that change nothing -/
def chW (A : Nat → Nat) (n w : Nat) : Int32 := if w = 2 then nI (mis A n) else match chd A n with
  | none => -4
  | some c => if w = 0 then nI (c / 12) else nI (c % 12)
theorem x_tell {n w : Nat} {σ : kS} {A : Nat → Nat} (h : CT σ A) (hW : WF A) (hn : n < 4096) (hw : w < 3) : R_X8_tellChord (nI n) (nI w) σ (chW A n w) σ := by
  refine t_X8_tellChord ?_
  rw [n_T (by omega)]
  refine ⟨fun q => ⟨_, _, x_shapeOf h hW hn, ?_, rfl⟩, fun q => ⟨fun q2 => ⟨_, _, x_rootOf h hW hn, ?_, rfl⟩, fun q2 => ⟨_, _, x_missingOf h hW hn, ?_, rfl⟩⟩⟩
  · obtain rfl : w = 0 := by omega
    unfold chW; cases chd A n <;> rfl
  · obtain rfl : w = 1 := by omega
    unfold chW; cases chd A n <;> rfl
  · obtain rfl : w = 2 := by omega
    rfl
theorem m_chord {n w : Nat} {σ μ : kS} {A : Nat → Nat} (h : I1 A σ μ) (ht : 0 < A 1) (hn : n < 4096) (hw : w < 3) : R_X9_chord (nI n) (nI w) μ (chW A n w) μ := by
  have hm := h.2.2.2.1
  have hW := h.1
  have e1 := c_iv (nI n) 4095 (by decide)
  have e2 := c_iv (nI w) 2 (by decide)
  have h2 : ∀ k, k < 2 ^ 31 → (nI w = nI k ↔ w = k) := fun k hk => nI_eq (by omega) hk
  refine t_X9_chord ⟨fun c => absurd ((I1_tm h).mpr ht) c, fun _ => ⟨fun c => absurd (e1.mpr ⟨n, by omega, rfl⟩) c, fun _ => ⟨fun _ => ⟨_, _, m_chordBy rfl hm hW hn, fun c => ?_, fun c => ?_⟩, fun c => absurd (e2.mpr ⟨w, by omega, rfl⟩) c⟩⟩⟩
  · have hw2 : w ≠ 2 := fun q => c (by rw [q]; rfl)
    unfold chW
    rw [if_neg hw2]
    cases hc : chd A n with
    | none => exact ⟨fun q => absurd q cI_neg, fun _ => ⟨rfl, rfl⟩⟩
    | some k =>
      have := chd_b hW n k hc
      refine ⟨fun _ => ⟨fun q => ⟨?_, rfl⟩, fun q => ⟨?_, rfl⟩⟩, fun q => absurd (cI_pos (by omega)) q⟩
      · have : w ≠ 0 := fun z => q (by rw [z]; rfl)
        simp only [if_neg this]
        rw [cI_some, n_rem (by omega)]
      · have : w = 0 := (h2 0 (by decide)).mp q
        simp only [if_pos this]
        rw [cI_some, n_div (by omega)]
  · have hw2 : w = 2 := (h2 2 (by decide)).mp c
    subst hw2
    exact ⟨_, _, m_missingBy rfl hm hW, rfl, rfl⟩
theorem q_chord {a b : Int32} {σ μ : kS} (h : Inv σ μ) : ∃ x τ ν, R_X8_chord a b σ x τ ∧ R_X9_chord a b μ x ν ∧ Inv τ ν := by
  obtain ⟨A, i1, -⟩ := id h
  have ea := c_wn a 4096 (by decide)
  have eb := c_wn b 3 (by decide)
  have fa := c_iv a 4095 (by decide)
  have fb := c_iv b 2 (by decide)
  by_cases qa : ∃ k, k < 4096 ∧ a = nI k
  · by_cases qb : ∃ k, k < 3 ∧ b = nI k
    · by_cases qt : 0 < A 1
      · obtain ⟨n, hn, rfl⟩ := id qa
        obtain ⟨w, hw, rfl⟩ := id qb
        exact ⟨_, σ, μ, t_X8_chord ⟨fun c => absurd (ea.mpr qa) c, fun _ => ⟨fun c => absurd (eb.mpr qb) c, fun _ => ⟨fun _ => ⟨_, _, x_tell (i1.2.2.2.2 qt) i1.1 hn hw, rfl, rfl⟩, fun c => absurd ((I1_th i1).mpr qt) c⟩⟩⟩, m_chord i1 qt hn hw, h⟩
      · exact ⟨-1, σ, μ, t_X8_chord ⟨fun c => absurd (ea.mpr qa) c, fun _ => ⟨fun c => absurd (eb.mpr qb) c, fun _ => ⟨fun c => absurd ((I1_th i1).mp c) qt, fun _ => ⟨rfl, rfl⟩⟩⟩⟩, t_X9_chord ⟨fun _ => ⟨rfl, rfl⟩, fun c => absurd ((I1_tm i1).mp c) qt⟩, h⟩
    · exact ⟨-1, σ, μ, t_X8_chord ⟨fun c => absurd (ea.mpr qa) c, fun _ => ⟨fun _ => ⟨rfl, rfl⟩, fun c => absurd (eb.mp c) qb⟩⟩, t_X9_chord ⟨fun _ => ⟨rfl, rfl⟩, fun _ => ⟨fun _ => ⟨rfl, rfl⟩, fun _ => ⟨fun c => absurd (fb.mp c) qb, fun _ => ⟨rfl, rfl⟩⟩⟩⟩, h⟩
  · exact ⟨-1, σ, μ, t_X8_chord ⟨fun _ => ⟨rfl, rfl⟩, fun c => absurd (ea.mp c) qa⟩, t_X9_chord ⟨fun _ => ⟨rfl, rfl⟩, fun _ => ⟨fun _ => ⟨rfl, rfl⟩, fun c => absurd (fa.mp c) qa⟩⟩, h⟩
theorem A2_1 {A : Nat → Nat} (h : WF A) {f : Nat} (hf : f < A 2) : 0 < A 1 := by
  have := h.2.2.1.1
  omega
theorem A3_1 {A : Nat → Nat} (h : WF A) {f : Nat} (hf : f < A 3) : 0 < A 1 := by
  have := h.2.2.1
  omega
theorem q_field {a b : Int32} {σ μ : kS} (h : Inv σ μ) : ∃ x τ ν, R_X8_field a b σ x τ ∧ R_X9_field a b μ x ν ∧ Inv τ ν := by
  obtain ⟨A, i1, -⟩ := id h
  obtain ⟨ea, fa⟩ := I1_f i1 a
  have eb := c_wn b 5 (by decide)
  have fb := c_iv b 4 (by decide)
  have hc := wfc i1.1
  by_cases qa : ∃ k, k < A 2 ∧ a = nI k
  · by_cases qb : ∃ k, k < 5 ∧ b = nI k
    · obtain ⟨f, hf, rfl⟩ := id qa
      obtain ⟨w, hw, rfl⟩ := id qb
      have qt := A2_1 i1.1 hf
      have hs := i1.1.2.2.2.2.1 f hf
      have h2 : ∀ k, k < 2 ^ 31 → (nI w = nI k ↔ w = k) := fun k hk => nI_eq (by omega) hk
      have es : σ.1 5 f = nI (A (8 + f)) := i1.2.2.1.2.2.1 f hf
      have em : μ.1 5 (8 + f) = nI (A (8 + f)) := mr_n i1.2.2.2.1 (by omega)
      refine ⟨if w = 0 then nI (A (8 + f)) else if w = 4 then nI (who A f) else chW A (A (8 + f)) (w - 1), σ, μ, t_X8_field ⟨fun c => absurd (ea.mpr qa) c, fun _ => ⟨fun _ => ?_, fun c => absurd (eb.mpr qb) c⟩⟩, t_X9_field ⟨fun c => absurd (fa.mpr qa) c, fun _ => ⟨fun _ => ?_, fun c => absurd (fb.mpr qb) c⟩⟩, h⟩
      · rw [n_T (by omega), n_N (by omega), es]
        refine ⟨fun q => ⟨n_in (by omega) (by decide), by rw [if_pos (by omega)], rfl⟩, fun q => ⟨fun q2 => ⟨_, _, x_standing rfl i1.2.2.1 i1.1 (by omega), by rw [if_neg (by omega), if_pos (by omega)], rfl⟩, fun q2 => ⟨n_in (by omega) (by decide), ?_⟩⟩⟩
        rw [if_neg (by omega), if_neg (by omega), show (1 : Int32) = nI 1 from rfl, pk_sub (by omega)]
        exact ⟨_, _, x_tell (i1.2.2.2.2 qt) i1.1 hs (by omega), rfl, rfl⟩
      · rw [show (8 : Int32) = nI 8 from rfl, nI_add, n_N (by omega), em, show (0 : Int32) = nI 0 from rfl, h2 0 (by decide), show (4 : Int32) = nI 4 from rfl, h2 4 (by decide)]
        refine ⟨fun q => ⟨fun q2 => ⟨n_in (by omega) (by decide), ?_⟩, fun q2 => ⟨_, _, m_whoAt rfl i1.2.2.2.1 i1.1 (by omega), by rw [if_neg q, if_pos q2], rfl⟩⟩, fun q => ⟨n_in (by omega) (by decide), by rw [if_pos q], rfl⟩⟩
        rw [if_neg q, if_neg q2, show (1 : Int32) = nI 1 from rfl, pk_sub (by omega)]
        exact ⟨_, _, m_chord i1 qt hs (by omega), rfl, rfl⟩
    · exact ⟨-1, σ, μ, t_X8_field ⟨fun c => absurd (ea.mpr qa) c, fun _ => ⟨fun c => absurd (eb.mp c) qb, fun _ => ⟨rfl, rfl⟩⟩⟩, t_X9_field ⟨fun c => absurd (fa.mpr qa) c, fun _ => ⟨fun c => absurd (fb.mp c) qb, fun _ => ⟨rfl, rfl⟩⟩⟩, h⟩
  · exact ⟨-1, σ, μ, t_X8_field ⟨fun _ => ⟨rfl, rfl⟩, fun c => absurd (ea.mp c) qa⟩, t_X9_field ⟨fun _ => ⟨rfl, rfl⟩, fun c => absurd (fa.mp c) qa⟩, h⟩
theorem q_singer {a b : Int32} {σ μ : kS} (h : Inv σ μ) : ∃ x τ ν, R_X8_singer a b σ x τ ∧ R_X9_singer a b μ x ν ∧ Inv τ ν := by
  obtain ⟨A, i1, -⟩ := id h
  obtain ⟨ea, fa⟩ := I1_s i1 a
  have eb := c_wn b 5 (by decide)
  have fb := c_iv b 4 (by decide)
  have hc := wfc i1.1
  by_cases qa : ∃ k, k < A 3 ∧ a = nI k
  · by_cases qb : ∃ k, k < 5 ∧ b = nI k
    · obtain ⟨i, hi, rfl⟩ := id qa
      obtain ⟨w, hw, rfl⟩ := id qb
      obtain ⟨x1, x2, x3, x4, x5⟩ := i1.2.2.1.2.2.2 i hi
      have hpl := (i1.1.2.2.2.2.2 i hi).2.2.2
      refine ⟨vI A (13 + 5 * w + i), σ, μ, t_X8_singer ⟨fun c => absurd (ea.mpr qa) c, fun _ => ⟨fun _ => ?_, fun c => absurd (eb.mpr qb) c⟩⟩, t_X9_singer ⟨fun c => absurd (fa.mpr qa) c, fun _ => ⟨fun _ => ?_, fun c => absurd (fb.mpr qb) c⟩⟩, h⟩
      · rw [n_T (by omega), n_N (by omega)]
        refine ⟨fun q => ⟨n_in (by omega) (by decide), ?_, rfl⟩, fun q => ⟨n_in (by omega) (by decide), ?_, rfl⟩, fun q => ⟨n_in (by omega) (by decide), ?_, rfl⟩, fun q => ⟨n_in (by omega) (by decide), ?_, rfl⟩, fun q => ⟨n_in (by omega) (by decide), ?_, rfl⟩⟩
        · obtain rfl : w = 0 := by omega
          exact (by unfold vI; rw [if_neg (by omega)] : vI A (13 + 5 * 0 + i) = nI (A (13 + i))).trans x1.symm
        · obtain rfl : w = 1 := by omega
          exact (by unfold vI; rw [if_neg (by omega)] : vI A (13 + 5 * 1 + i) = nI (A (18 + i))).trans x2.symm
        · obtain rfl : w = 2 := by omega
          exact (by unfold vI; rw [if_neg (by omega)] : vI A (13 + 5 * 2 + i) = nI (A (23 + i))).trans x3.symm
        · obtain rfl : w = 3 := by omega
          exact (by unfold vI; rw [if_neg (by omega)] : vI A (13 + 5 * 3 + i) = nI (A (28 + i))).trans x4.symm
        · obtain rfl : w = 4 := by omega
          have hx5 : σ.1 9 i = pI (A (33 + i)) := x5
          rw [hx5, tP_pI (by omega)]
          show vI A (33 + i) = _
          unfold vI
          by_cases z : A (33 + i) = 9
          · rw [if_pos ⟨by omega, z⟩, if_pos z]
          · rw [if_neg (fun y => z y.2), if_neg z]
      · rw [show (13 : Int32) = nI 13 from rfl, show (5 : Int32) = nI 5 from rfl, pk_mul, nI_add, nI_add, n_N (by omega), i1.2.2.2.1 _ (by omega)]
        exact ⟨n_in (by omega) (by decide), rfl, rfl⟩
    · exact ⟨-1, σ, μ, t_X8_singer ⟨fun c => absurd (ea.mpr qa) c, fun _ => ⟨fun c => absurd (eb.mp c) qb, fun _ => ⟨rfl, rfl⟩⟩⟩, t_X9_singer ⟨fun c => absurd (fa.mpr qa) c, fun _ => ⟨fun c => absurd (fb.mp c) qb, fun _ => ⟨rfl, rfl⟩⟩⟩, h⟩
  · exact ⟨-1, σ, μ, t_X8_singer ⟨fun _ => ⟨rfl, rfl⟩, fun c => absurd (ea.mp c) qa⟩, t_X9_singer ⟨fun _ => ⟨rfl, rfl⟩, fun c => absurd (fa.mp c) qa⟩, h⟩
/-- of which kind: the class's table of kinds beside the reference's three questions -/
def isK (o k : Nat) : Bool := k == 0 || k == o || (k == 1 && decide (1 ≤ o ∧ o ≤ 3)) || (k == 4 && o == 5)
theorem isK_t : ∀ o, o < 6 → 1 ≤ o → ∀ k, k < 6 → (hs (k_tIS o) (nI k) ↔ isK o k = true) := by decide +kernel
theorem q_as {a b : Int32} {σ μ : kS} (h : Inv σ μ) : ∃ x τ ν, R_X8_as a b σ x τ ∧ R_X9_as a b μ x ν ∧ Inv τ ν := by
  obtain ⟨A, i1, -⟩ := id h
  obtain ⟨ea, fa⟩ := I1_s i1 a
  have eb := c_wn b 6 (by decide)
  have fb := c_iv b 5 (by decide)
  have hc := wfc i1.1
  by_cases qa : ∃ k, k < A 3 ∧ a = nI k
  · by_cases qb : ∃ k, k < 6 ∧ b = nI k
    · obtain ⟨i, hi, rfl⟩ := id qa
      obtain ⟨w, hw, rfl⟩ := id qb
      have hk := (i1.1.2.2.2.2.2 i hi).1
      have x1 : σ.1 6 i = nI (A (13 + i)) := (i1.2.2.1.2.2.2 i hi).1
      have h2 : ∀ k, k < 2 ^ 31 → (nI w = nI k ↔ w = k) := fun k hk => nI_eq (by omega) hk
      have h3 : ∀ k, k < 2 ^ 31 → (nI (A (13 + i)) = nI k ↔ A (13 + i) = k) := fun k hk => nI_eq (by omega) hk
      refine ⟨if isK (A (13 + i)) w then nI i else -12, σ, μ, t_X8_as ⟨fun c => absurd (ea.mpr qa) c, fun _ => ⟨fun _ => ?_, fun c => absurd (eb.mpr qb) c⟩⟩, t_X9_as ⟨fun c => absurd (fa.mpr qa) c, fun _ => ⟨fun _ => ?_, fun c => absurd (fb.mpr qb) c⟩⟩, h⟩
      · rw [n_N (by omega), x1, n_N (by omega), isK_t _ (by omega) hk.1 w hw]
        exact ⟨n_in (by omega) (by decide), n_in (by omega) (by decide), fun c => ⟨by rw [if_neg c], rfl⟩, fun c => ⟨by rw [if_pos c], rfl⟩⟩
      · rw [show (13 : Int32) = nI 13 from rfl, nI_add, n_N (by omega), mr_n i1.2.2.2.1 (show 13 + i < 33 by omega)]
        generalize A (13 + i) = o at hk h3
        have last : ∀ (d e : Int32), (¬ d = 0 ↔ (w = 1 ∧ 1 ≤ o ∧ o ≤ 3)) → (¬ e = 0 ↔ (w = 4 ∧ o = 5)) → E_X9_as_65 (nI i) (nI w) (nI o) d e μ (if isK o w then nI i else -12) μ := by
          intro d e hd he
          refine t_X9_as_65 ?_
          rw [show (0 : Int32) = nI 0 from rfl, h2 0 (by decide), nI_eq (a := w) (b := o) (by omega) (by omega)]
          refine ⟨fun q => ⟨?_, rfl⟩, fun q => ⟨fun q2 => ⟨?_, rfl⟩, fun q2 => ⟨fun q3 => ⟨?_, rfl⟩, fun q3 => ⟨fun q4 => ⟨?_, rfl⟩, fun q4 => ⟨?_, rfl⟩⟩⟩⟩⟩
          · rw [if_pos (by simp [isK, q])]
          · rw [if_pos (by simp [isK, q2])]
          · have := hd.mp q3
            rw [if_pos (by simp [isK, this])]
          · have z1 : ¬ (w = 1 ∧ 1 ≤ o ∧ o ≤ 3) := fun z => (hd.mpr z) q3
            have z2 : ¬ (w = 4 ∧ o = 5) := fun z => (he.mpr z) q4
            rw [if_neg]
            simp only [isK, Bool.or_eq_true, Bool.and_eq_true, beq_iff_eq, decide_eq_true_eq]
            omega
          · have := he.mp q4
            rw [if_pos (by simp [isK, this])]
        have l47 : ¬ (w = 1 ∧ 1 ≤ o ∧ o ≤ 3) → E_X9_as_47 (nI i) (nI w) (nI o) μ (if isK o w then nI i else -12) μ := by
          intro z
          refine t_X9_as_47 ?_
          rw [show (4 : Int32) = nI 4 from rfl, h2 4 (by decide), show (5 : Int32) = nI 5 from rfl, nI_eq (a := o) (b := 5) (by omega) (by decide)]
          refine ⟨fun q => last 0 0 ⟨fun y => absurd rfl y, fun y => absurd y z⟩ ⟨fun y => absurd rfl y, fun y => absurd y.1 q⟩, fun q => ⟨fun q2 => last 0 0 ⟨fun y => absurd rfl y, fun y => absurd y z⟩ ⟨fun y => absurd rfl y, fun y => absurd y.2 q2⟩, fun q2 => last 0 1 ⟨fun y => absurd rfl y, fun y => absurd y z⟩ ⟨fun _ => ⟨q, q2⟩, fun _ => by decide⟩⟩⟩
        have hiv : iv (nI o) 1 3 ↔ 1 ≤ o ∧ o ≤ 3 := by
          unfold iv
          rw [n_T (by omega), show (1 : Int32).toInt = 1 from rfl, show (3 : Int32).toInt = 3 from rfl]
          omega
        rw [hiv, show (1 : Int32) = nI 1 from rfl, h2 1 (by decide)]
        refine ⟨n_in (by omega) (by decide), fun q => l47 (fun z => q z.1), fun q => ⟨fun q2 => l47 (fun z => q2 z.2), fun q2 => ?_⟩⟩
        rw [show (4 : Int32) = nI 4 from rfl, h2 4 (by decide)]
        exact ⟨fun q3 => last 1 0 ⟨fun _ => ⟨q, q2⟩, fun _ => by decide⟩ ⟨fun y => absurd rfl y, fun y => absurd y.1 q3⟩, fun q3 => by omega⟩
    · exact ⟨-1, σ, μ, t_X8_as ⟨fun c => absurd (ea.mpr qa) c, fun _ => ⟨fun c => absurd (eb.mp c) qb, fun _ => ⟨rfl, rfl⟩⟩⟩, t_X9_as ⟨fun c => absurd (fa.mpr qa) c, fun _ => ⟨fun c => absurd (fb.mp c) qb, fun _ => ⟨rfl, rfl⟩⟩⟩, h⟩
  · exact ⟨-1, σ, μ, t_X8_as ⟨fun _ => ⟨rfl, rfl⟩, fun c => absurd (ea.mp c) qa⟩, t_X9_as ⟨fun _ => ⟨rfl, rfl⟩, fun c => absurd (fa.mp c) qa⟩, h⟩
