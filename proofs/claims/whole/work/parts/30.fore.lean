/-! what is foretold of now: sings, howls, back, fills; count -/
theorem sc28 : ∀ k, k ∈ [28] → k ∈ scX := by decide
theorem sc11 : ∀ k, k ∈ [11] → k ∈ scM ∧ k ≠ 0 := by decide
theorem q_sings {a : Int32} {σ μ : kS} (h : Inv σ μ) : ∃ x τ ν, R_X8_sings a σ x τ ∧ R_X9_sings a μ x ν ∧ Inv τ ν := by
  obtain ⟨A, i1, -⟩ := id h
  obtain ⟨ea, fa⟩ := I1_s i1 a
  have hc := wfc i1.1
  by_cases qa : ∃ k, k < A 3 ∧ a = nI k
  · obtain ⟨i, hi, rfl⟩ := id qa
    have qt := A3_1 i1.1 hi
    obtain ⟨τ, a1, a2, a3⟩ := x_singAll (v := 3) rfl i1.2.2.1 (i1.2.2.2.2 qt) i1.1
    obtain ⟨ν, b1, b2, b3⟩ := m_singAll (r := 5) rfl (by decide) i1.2.2.2.1 i1.1
    have hl := sgA_le A i
    refine ⟨if sgA A i = 12 then -4 else nI (sgA A i), τ, ν, t_X8_sings ⟨fun _ => ⟨_, _, a1, n_in (by omega) (by decide), ?_⟩, fun c => absurd (ea.mpr qa) c⟩, t_X9_sings ⟨fun _ => ⟨_, _, b1, n_in (by omega) (by decide), ?_⟩, fun c => absurd (fa.mpr qa) c⟩, Inv_sc h (fr_mo a2 sc28) b2 sc11⟩
    · rw [n_N (by omega), a3 i (by omega), sgP_e hi, sg12 hl]
      exact ⟨fun q => ⟨by rw [if_neg q], rfl⟩, fun q => ⟨by rw [if_pos q], rfl⟩⟩
    · rw [n_N (by omega), b3 i (by omega), sgP_e hi, sg12 hl]
      exact ⟨fun q => ⟨n_in (by omega) (by decide), by rw [if_neg q], rfl⟩, fun q => ⟨by rw [if_pos q], rfl⟩⟩
  · exact ⟨-1, σ, μ, t_X8_sings ⟨fun c => absurd (ea.mp c) qa, fun _ => ⟨rfl, rfl⟩⟩, t_X9_sings ⟨fun c => absurd (fa.mp c) qa, fun _ => ⟨rfl, rfl⟩⟩, h⟩
/-! howls -/
def hwP (A : Nat → Nat) (s p : Nat) : Bool := !s.testBit p && (chd A (s ||| 2 ^ p)).isNone
theorem or_self {s p : Nat} : s ||| 2 ^ p = s ↔ s.testBit p = true := by
  constructor
  · intro h
    rw [← h, Nat.testBit_or, Nat.testBit_two_pow]; simp
  · intro h
    apply Nat.eq_of_testBit_eq
    intro k
    rw [Nat.testBit_or, Nat.testBit_two_pow]
    by_cases e : p = k
    · subst e; simp [h]
    · simp [e]
theorem q_howls {a : Int32} {σ μ : kS} (h : Inv σ μ) : ∃ x τ ν, R_X8_howls a σ x τ ∧ R_X9_howls a μ x ν ∧ Inv τ ν := by
  obtain ⟨A, i1, -⟩ := id h
  obtain ⟨ea, fa⟩ := I1_f i1 a
  have hc := wfc i1.1
  by_cases qa : ∃ k, k < A 2 ∧ a = nI k
  · obtain ⟨f, hf, rfl⟩ := id qa
    have qt := A2_1 i1.1 hf
    have hs := i1.1.2.2.2.2.1 f hf
    have es : σ.1 5 f = nI (A (8 + f)) := i1.2.2.1.2.2.1 f hf
    have em : μ.1 5 (8 + f) = nI (A (8 + f)) := mr_n i1.2.2.2.1 (by omega)
    generalize A (8 + f) = s at hs es em
    have hor : ∀ p, p < 12 → s ||| 2 ^ p < 4096 := fun p hp => or_lt (n := 12) hs (p_lt hp)
    refine ⟨nI (orF 12 (hwP A s)), σ, μ, t_X8_howls ⟨fun _ => ?_, fun c => absurd (ea.mpr qa) c⟩, t_X9_howls ⟨fun _ => ?_, fun c => absurd (fa.mpr qa) c⟩, h⟩
    · have key : ∀ p, p ≤ 12 → E_X8_howls_14 (nI f) (nI (orF p (hwP A s))) (nI p) σ (nI (orF 12 (hwP A s))) σ := by
        refine loop_up 12 ?_ (fun p hp ih => ?_)
        · exact t_X8_howls_14 ⟨fun _ => ⟨rfl, rfl⟩, fun c => absurd (Int32.le_refl _) c⟩
        · refine t_X8_howls_14 ⟨fun c => absurd ((n_le (a := 12) (by decide) (by omega)).mp c) (by omega), fun _ => ?_⟩
          have := hor p hp
          rw [n_N (by omega), es, n_one p (by omega), n_or, nI_eq (by omega) (by omega), or_self, n_inc, n_or]
          refine ⟨n_in (by omega) (by decide), n_in (by omega) (by decide), fun q => ?_, fun q => ⟨_, _, x_isThere (i1.2.2.2.2 qt) i1.1 this, ?_⟩⟩
          · rw [orF_f (by unfold hwP; rw [q]; rfl)] at ih; exact ih
          · rw [bN_0]
            refine ⟨fun z => ?_, fun z => ?_⟩
            · rw [orF_f (by unfold hwP; rw [← Option.not_isSome, (Bool.not_eq_false _).mp z]; simp)] at ih; exact ih
            · rw [orF_t (by unfold hwP; simp at z q; simp [z, q])] at ih; exact ih
      exact key 0 (Nat.zero_le _)
    · have key : ∀ p, p ≤ 12 → E_X9_howls_14 (nI f) (nI (orF p (hwP A s))) (nI p) μ (nI (orF 12 (hwP A s))) μ := by
        refine loop_up 12 ?_ (fun p hp ih => ?_)
        · exact t_X9_howls_14 ⟨fun _ => ⟨rfl, rfl⟩, fun c => absurd (Int32.le_refl _) c⟩
        · have l0 : hwP A s p = false → E_X9_howls_64 (nI f) (nI (orF p (hwP A s))) (nI p) 0 μ (nI (orF 12 (hwP A s))) μ := fun q => by
            rw [orF_f q] at ih
            refine t_X9_howls_64 ⟨fun _ => ?_, fun c => absurd rfl c⟩
            rw [or_0, n_inc]; exact ih
          have l1 : hwP A s p = true → E_X9_howls_64 (nI f) (nI (orF p (hwP A s))) (nI p) 1 μ (nI (orF 12 (hwP A s))) μ := fun q => by
            rw [orF_t q] at ih
            refine t_X9_howls_64 ⟨fun c => absurd c (by decide), fun _ => ?_⟩
            rw [n_one p (by omega), n_or, n_inc]; exact ih
          refine t_X9_howls_14 ⟨fun c => absurd ((n_le (a := 12) (by decide) (by omega)).mp c) (by omega), fun _ => ?_⟩
          have := hor p hp
          rw [show (8 : Int32) = nI 8 from rfl, nI_add, n_N (by omega), em, n_one p (by omega), n_or, n_hs (by omega) (by omega)]
          refine ⟨n_in (by omega) (by decide), fun q => l0 (by unfold hwP; rw [q]; rfl), fun q => ⟨n_in (by omega) (by decide), _, _, m_chordBy rfl i1.2.2.2.1 i1.1 this, ?_⟩⟩
          cases hcd : chd A (s ||| 2 ^ p) with
          | none => exact ⟨fun z => absurd z cI_neg, fun _ => l1 (by unfold hwP; simp at q; simp [q, hcd])⟩
          | some k => exact ⟨fun _ => l0 (by unfold hwP; simp [hcd]), fun z => absurd (cI_pos (by have := chd_b i1.1 _ k hcd; omega)) z⟩
      exact key 0 (Nat.zero_le _)
  · exact ⟨-1, σ, μ, t_X8_howls ⟨fun c => absurd (ea.mp c) qa, fun _ => ⟨rfl, rfl⟩⟩, t_X9_howls ⟨fun c => absurd (fa.mp c) qa, fun _ => ⟨rfl, rfl⟩⟩, h⟩
/-! back -/
def oI (o : Option Nat) : Int32 := match o with
  | none => -4
  | some b => nI b
def bk (A : Nat → Nat) (s : Nat) : Nat → Option Nat × Nat
  | 0 => (none, 4)
  | k + 1 => if nd k s = 0 ∧ pop k < (bk A s k).2 ∧ (chd A (nd s k)).isSome = true then (some k, pop k) else bk A s k
theorem bk_2 (A : Nat → Nat) (s : Nat) : ∀ k, (bk A s k).2 ≤ 12
  | 0 => by unfold bk; decide
  | k + 1 => by
    rw [bk]; split
    · exact pop_le k
    · exact bk_2 A s k
theorem bk_end (A : Nat → Nat) {s : Nat} : ∀ d, s + 1 + d ≤ 4096 → bk A s (s + 1 + d) = bk A s (s + 1)
  | 0, _ => rfl
  | d + 1, h => by
    rw [show s + 1 + (d + 1) = (s + 1 + d) + 1 by omega, bk, if_neg, bk_end A d (by omega)]
    intro ⟨q, _⟩
    have := sb_le ((nd_0 (by omega)).mp q)
    omega
theorem q_back {a : Int32} {σ μ : kS} (h : Inv σ μ) : ∃ x τ ν, R_X8_back a σ x τ ∧ R_X9_back a μ x ν ∧ Inv τ ν := by
  obtain ⟨A, i1, -⟩ := id h
  obtain ⟨ea, fa⟩ := I1_f i1 a
  have hc := wfc i1.1
  by_cases qa : ∃ k, k < A 2 ∧ a = nI k
  · obtain ⟨f, hf, rfl⟩ := id qa
    have qt := A2_1 i1.1 hf
    have hs := i1.1.2.2.2.2.1 f hf
    have es : σ.1 5 f = nI (A (8 + f)) := i1.2.2.1.2.2.1 f hf
    have em : μ.1 5 (8 + f) = nI (A (8 + f)) := mr_n i1.2.2.2.1 (by omega)
    generalize A (8 + f) = s at hs es em
    have hT := i1.2.2.2.2 qt
    by_cases h0 : s = 0
    · refine ⟨-2, σ, μ, t_X8_back ⟨fun _ => ?_, fun c => absurd (ea.mpr qa) c⟩, t_X9_back ⟨fun _ => ?_, fun c => absurd (fa.mpr qa) c⟩, h⟩
      · rw [n_N (by omega), es, h0]
        exact ⟨n_in (by omega) (by decide), fun c => absurd nI_0 c, fun _ => ⟨rfl, rfl⟩⟩
      · rw [show (8 : Int32) = nI 8 from rfl, nI_add, n_N (by omega), em, h0]
        exact ⟨n_in (by omega) (by decide), fun c => absurd nI_0 c, fun _ => ⟨rfl, rfl⟩⟩
    · have hnd : ∀ k, nd s k < 4096 := fun k => Nat.lt_of_le_of_lt (nd_le _ _) hs
      refine ⟨oI (bk A s (s + 1)).1, σ, μ, t_X8_back ⟨fun _ => ?_, fun c => absurd (ea.mpr qa) c⟩, t_X9_back ⟨fun _ => ?_, fun c => absurd (fa.mpr qa) c⟩, h⟩
      · rw [n_N (by omega), es]
        refine ⟨n_in (by omega) (by decide), fun _ => ?_, fun c => absurd ((n_eq0 (by omega)).mp c) h0⟩
        have key : ∀ k, k ≤ s + 1 → E_X8_back_36 (nI s) (oI (bk A s k).1) (nI (bk A s k).2) (nI k) σ (oI (bk A s (s + 1)).1) σ := by
          refine loop_up (s + 1) ?_ (fun k hk ih => ?_)
          · exact t_X8_back_36 ⟨fun _ => ⟨rfl, rfl⟩, fun c => absurd (nI_lt (by omega) (by omega)) c⟩
          · have hb2 := bk_2 A s k
            have hpk := pop_le k
            have l0 : (¬ (nd k s = 0 ∧ pop k < (bk A s k).2)) → E_X8_back_66 (nI s) (oI (bk A s k).1) (nI (bk A s k).2) (nI k) 0 σ (oI (bk A s (s + 1)).1) σ := fun q => by
              rw [bk, if_neg (fun z => q ⟨z.1, z.2.1⟩)] at ih
              refine t_X8_back_66 ⟨fun _ => ?_, fun c => absurd rfl c⟩
              rw [n_inc]; exact ih
            refine t_X8_back_36 ⟨fun c => absurd ((n_lt (by omega) (by omega)).mp c) (by omega), fun _ => ?_⟩
            rw [n_nd, n_eq0 (Nat.lt_of_le_of_lt (nd_le _ _) (by omega))]
            refine ⟨fun q => l0 (fun z => q z.1), fun q => ⟨_, _, x_bits (by omega), fun q2 => l0 (fun z => ?_), fun q2 => ?_⟩⟩
            · have := (n_le (by omega) (by omega)).mp q2; omega
            · have q3 := mt (n_le (a := (bk A s k).2) (b := pop k) (by omega) (by omega)).mpr q2
              refine t_X8_back_66 ⟨fun c => absurd c (by decide), fun _ => ?_⟩
              rw [n_nd, n_inc]
              refine ⟨_, _, x_isThere hT i1.1 (hnd k), ?_⟩
              rw [bN_0]
              refine ⟨fun z => ?_, fun z => ⟨_, _, x_bits (by omega), ?_⟩⟩
              · rw [bk, if_neg (fun y => by rw [y.2.2] at z; cases z)] at ih; exact ih
              · rw [bk, if_pos ⟨q, by omega, (Bool.not_eq_false _).mp z⟩] at ih; exact ih
        exact key 0 (Nat.zero_le _)
      · rw [show (8 : Int32) = nI 8 from rfl, nI_add, n_N (by omega), em]
        refine ⟨n_in (by omega) (by decide), fun _ => ?_, fun c => absurd ((n_eq0 (by omega)).mp c) h0⟩
        have hend : bk A s 4096 = bk A s (s + 1) := by
          have := bk_end A (s := s) (4095 - s) (by omega)
          rwa [show s + 1 + (4095 - s) = 4096 by omega] at this
        have key : ∀ k, k ≤ 4096 → E_X9_back_36 (nI s) (oI (bk A s k).1) (nI (bk A s k).2) (nI k) μ (oI (bk A s (s + 1)).1) μ := by
          refine loop_up 4096 ?_ (fun k hk ih => ?_)
          · rw [hend]
            exact t_X9_back_36 ⟨fun _ => ⟨rfl, rfl⟩, fun c => absurd (Int32.le_refl _) c⟩
          · have hb2 := bk_2 A s k
            have hpk := pop_le k
            have l0 : (¬ (nd k s = 0 ∧ pop k < (bk A s k).2)) → E_X9_back_68 (nI s) (oI (bk A s k).1) (nI (bk A s k).2) (nI k) 0 μ (oI (bk A s (s + 1)).1) μ := fun q => by
              rw [bk, if_neg (fun z => q ⟨z.1, z.2.1⟩)] at ih
              refine t_X9_back_68 ⟨fun _ => ?_, fun c => absurd rfl c⟩
              rw [n_inc]; exact ih
            refine t_X9_back_36 ⟨fun c => absurd ((n_le (a := 4096) (by decide) (by omega)).mp c) (by omega), fun _ => ?_⟩
            rw [n_nd, n_eq0 (Nat.lt_of_le_of_lt (nd_le _ _) (by omega))]
            refine ⟨fun q => l0 (fun z => q z.1), fun q => ⟨_, _, m_bits (by omega), fun q2 => l0 (fun z => ?_), fun q2 => ?_⟩⟩
            · have := (n_le (by omega) (by omega)).mp q2; omega
            · have q3 := mt (n_le (a := (bk A s k).2) (b := pop k) (by omega) (by omega)).mpr q2
              refine t_X9_back_68 ⟨fun c => absurd c (by decide), fun _ => ?_⟩
              rw [n_nd, n_inc]
              refine ⟨_, _, m_chordBy rfl i1.2.2.2.1 i1.1 (hnd k), ?_⟩
              cases hcd : chd A (nd s k) with
              | none =>
                refine ⟨fun z => ?_, fun z => absurd (by decide) z⟩
                rw [bk, if_neg (fun y => by rw [hcd] at y; cases y.2.2)] at ih; exact ih
              | some c =>
                refine ⟨fun z => absurd z (n_neg (by have := chd_b i1.1 _ c hcd; omega)), fun z => ⟨_, _, m_bits (by omega), ?_⟩⟩
                rw [bk, if_pos ⟨q, by omega, by rw [hcd]; rfl⟩] at ih; exact ih
        exact key 0 (Nat.zero_le _)
  · exact ⟨-1, σ, μ, t_X8_back ⟨fun c => absurd (ea.mp c) qa, fun _ => ⟨rfl, rfl⟩⟩, t_X9_back ⟨fun c => absurd (fa.mp c) qa, fun _ => ⟨rfl, rfl⟩⟩, h⟩
/-! fills -/
def fib (A : Nat → Nat) (s : Nat) : Nat → Option Nat
  | 0 => none
  | w + 1 => if (fib A s w).all (fun b => decide (pop w < pop b)) = true ∧ ful A s w = true then some w else fib A s w
theorem fib_lt (A : Nat → Nat) (s : Nat) : ∀ w b, fib A s w = some b → b < w
  | 0, b, h => by cases h
  | w + 1, b, h => by
    rw [fib] at h
    split at h
    · cases h; omega
    · have := fib_lt A s w b h; omega
theorem pop32 : ∀ w, w < 32 → pop w ≤ 5 := by decide +kernel
theorem q_fills {a : Int32} {σ μ : kS} (h : Inv σ μ) : ∃ x τ ν, R_X8_fills a σ x τ ∧ R_X9_fills a μ x ν ∧ Inv τ ν := by
  obtain ⟨A, i1, -⟩ := id h
  obtain ⟨ea, fa⟩ := I1_f i1 a
  have hc := wfc i1.1
  by_cases qa : ∃ k, k < A 2 ∧ a = nI k
  · obtain ⟨f, hf, rfl⟩ := id qa
    have qt := A2_1 i1.1 hf
    have hT := i1.2.2.2.2 qt
    have h32 : 2 ^ A 3 ≤ 2 ^ 5 := Nat.pow_le_pow_right (by decide) hc.2.2
    have kx : ∀ w, w ≤ 2 ^ A 3 → ∀ σ', fr [28] σ σ' → ∃ τ, E_X8_fills_19 (nI f) (oI (fib A (A (8 + f)) w)) (nI (match fib A (A (8 + f)) w with
        | none => 6
        | some b => pop b)) (nI w) σ' (oI (fib A (A (8 + f)) (2 ^ A 3))) τ ∧ fr [28] σ τ := by
      refine loop_up (2 ^ A 3) (fun σ' g => ?_) (fun w hw ih σ' g => ?_)
      · have hx := vx_o (c := 28) (v := 3) rfl i1.2.2.1 g
        refine ⟨σ', t_X8_fills_19 ⟨fun _ => ⟨rfl, rfl⟩, fun c => absurd ?_ c⟩, g⟩
        rw [hx.1.2.2.1, n_one _ (by omega)]; exact Int32.le_refl _
      · have hx := vx_o (c := 28) (v := 3) rfl i1.2.2.1 g
        have hT1 : CT σ' A := CT_o hT (g 25 (by simp)).1 (g 26 (by simp)).1
        have hcnd : ¬ (1 : Int32) <<< (σ'.1 3 2 &&& 31) ≤ nI w := by
          rw [hx.1.2.2.1, n_one _ (by omega), n_le (by omega) (by omega)]; omega
        have hb : ∀ b, fib A (A (8 + f)) w = some b → pop b ≤ 5 := fun b e => pop32 b (by have := fib_lt _ _ _ _ e; omega)
        have hpw := pop32 w (by omega)
        have hlt : (match fib A (A (8 + f)) w with
          | none => 6
          | some b => pop b) ≤ 6 := by
          cases e : fib A (A (8 + f)) w with
          | none => exact Nat.le_refl _
          | some b => have := hb b e; simp only; omega
        have hall : pop w < (match fib A (A (8 + f)) w with
          | none => 6
          | some b => pop b) ↔ (fib A (A (8 + f)) w).all (fun b => decide (pop w < pop b)) = true := by
          cases e : fib A (A (8 + f)) w with
          | none => simp; omega
          | some b => simp
        by_cases z : pop w < (match fib A (A (8 + f)) w with
          | none => 6
          | some b => pop b)
        · have hu : fr [28] σ' (xsU A (A (8 + f)) w σ') := fr_up (by simp)
          obtain ⟨τ, j1, j2⟩ := ih (xsU A (A (8 + f)) w σ') (fr_tr g hu)
          refine ⟨τ, t_X8_fills_19 ⟨fun c => absurd c hcnd, fun _ => ⟨_, _, x_bits (by omega), fun c => absurd ((n_le (by omega) (by omega)).mp c) (by omega), fun _ => ⟨_, _, x_sing (v := 3) rfl hx hT1 i1.1 hf (by omega), ?_⟩⟩⟩, j2⟩
          rw [bN_0, n_inc]
          refine ⟨fun y => ?_, fun y => ⟨_, _, x_bits (by omega), ?_⟩⟩
          · rw [fib, if_neg (fun q => by rw [q.2] at y; cases y)] at j1; exact j1
          · rw [fib, if_pos ⟨hall.mp z, (Bool.not_eq_false _).mp y⟩] at j1; exact j1
        · obtain ⟨τ, j1, j2⟩ := ih σ' g
          refine ⟨τ, t_X8_fills_19 ⟨fun c => absurd c hcnd, fun _ => ⟨_, _, x_bits (by omega), fun _ => ?_, fun c => absurd (nI_le (by omega) (by omega)) c⟩⟩, j2⟩
          rw [fib, if_neg (fun q => z (hall.mpr q.1))] at j1
          rw [n_inc]; exact j1
    have km : ∀ w, w ≤ 2 ^ A 3 → ∀ μ', fr [11] μ μ' → ∃ ν, E_X9_fills_15 (nI f) (oI (fib A (A (8 + f)) w)) (nI w) μ' (oI (fib A (A (8 + f)) (2 ^ A 3))) ν ∧ fr [11] μ ν := by
      refine loop_up (2 ^ A 3) (fun μ' g => ?_) (fun w hw ih μ' g => ?_)
      · have hx : mr 5 μ' A := mr_kp i1.2.2.2.1 (g 5 (by simp)).1
        refine ⟨μ', t_X9_fills_15 ⟨fun _ => ⟨rfl, rfl⟩, fun c => absurd ?_ c⟩, g⟩
        rw [mr_n hx (by decide), n_one _ (by omega)]; exact Int32.le_refl _
      · have hx : mr 5 μ' A := mr_kp i1.2.2.2.1 (g 5 (by simp)).1
        have hcnd : ¬ (1 : Int32) <<< (μ'.1 5 3 &&& 31) ≤ nI w := by
          rw [mr_n hx (by decide), n_one _ (by omega), n_le (by omega) (by omega)]; omega
        have hb : ∀ b, fib A (A (8 + f)) w = some b → b < 32 := fun b e => by have := fib_lt _ _ _ _ e; omega
        have no : ¬ (fib A (A (8 + f)) w).all (fun b => decide (pop w < pop b)) = true → ∃ ν, E_X9_fills_49 (nI f) (oI (fib A (A (8 + f)) w)) (nI w) 0 μ' (oI (fib A (A (8 + f)) (2 ^ A 3))) ν ∧ fr [11] μ ν := fun z => by
          obtain ⟨ν, j1, j2⟩ := ih μ' g
          rw [fib, if_neg (fun q => z q.1)] at j1
          exact ⟨ν, t_X9_fills_49 ⟨fun _ => by rw [n_inc]; exact j1, fun c => absurd rfl c⟩, j2⟩
        have yes : (fib A (A (8 + f)) w).all (fun b => decide (pop w < pop b)) = true → ∃ ν, E_X9_fills_49 (nI f) (oI (fib A (A (8 + f)) w)) (nI w) 1 μ' (oI (fib A (A (8 + f)) (2 ^ A 3))) ν ∧ fr [11] μ ν := fun z => by
          have hu : fr [11] μ' (siU A (A (8 + f)) w μ') := fr_up (by simp)
          obtain ⟨ν, j1, j2⟩ := ih (siU A (A (8 + f)) w μ') (fr_tr g hu)
          refine ⟨ν, t_X9_fills_49 ⟨fun c => absurd c (by decide), fun _ => ⟨_, _, m_singIn (r := 5) rfl (by decide) hx i1.1 hf (by omega), ?_⟩⟩, j2⟩
          rw [siI_0, n_inc]
          refine ⟨fun y => ?_, fun y => ?_⟩
          · rw [fib, if_neg (fun q => y q.2)] at j1; exact j1
          · rw [fib, if_pos ⟨z, y⟩] at j1; exact j1
        cases e : fib A (A (8 + f)) w with
        | none =>
          obtain ⟨ν, j1, j2⟩ := yes (by rw [e]; rfl)
          rw [e] at j1
          exact ⟨ν, t_X9_fills_15 ⟨fun c => absurd c hcnd, fun _ => ⟨fun _ => j1, fun c => absurd rfl c⟩⟩, j2⟩
        | some b =>
          have hb1 := hb b e
          have hp1 := pop32 b hb1
          have hp2 := pop32 w (by omega)
          have hne : ¬ oI (some b) = -4 := fun q => by
            have := congrArg Int32.toInt q
            rw [show oI (some b) = nI b from rfl, n_T (by omega), show (-4 : Int32).toInt = -4 from rfl] at this
            omega
          by_cases z : pop w < pop b
          · obtain ⟨ν, j1, j2⟩ := yes (by rw [e]; simp [z])
            rw [e] at j1
            exact ⟨ν, t_X9_fills_15 ⟨fun c => absurd c hcnd, fun _ => ⟨fun c => absurd c hne, fun _ => ⟨_, _, m_bits (by omega), _, _, m_bits (by omega), fun c => absurd ((n_le (by omega) (by omega)).mp c) (by omega), fun _ => j1⟩⟩⟩, j2⟩
          · obtain ⟨ν, j1, j2⟩ := no (by rw [e]; simp; omega)
            rw [e] at j1
            exact ⟨ν, t_X9_fills_15 ⟨fun c => absurd c hcnd, fun _ => ⟨fun c => absurd c hne, fun _ => ⟨_, _, m_bits (by omega), _, _, m_bits (by omega), fun _ => j1, fun c => absurd (nI_le (by omega) (by omega)) c⟩⟩⟩, j2⟩
    obtain ⟨τ, x1, x2⟩ := kx 0 (Nat.zero_le _) σ fr_rf
    obtain ⟨ν, m1, m2⟩ := km 0 (Nat.zero_le _) μ fr_rf
    exact ⟨_, τ, ν, t_X8_fills ⟨fun _ => x1, fun c => absurd (ea.mpr qa) c⟩, t_X9_fills ⟨fun _ => m1, fun c => absurd (fa.mpr qa) c⟩, Inv_sc h (fr_mo x2 sc28) m2 sc11⟩
  · exact ⟨-1, σ, μ, t_X8_fills ⟨fun c => absurd (ea.mp c) qa, fun _ => ⟨rfl, rfl⟩⟩, t_X9_fills ⟨fun c => absurd (fa.mp c) qa, fun _ => ⟨rfl, rfl⟩⟩, h⟩
/-! count -/
def fwP (A : Nat → Nat) (b : Bool) (f : Nat) : Bool := (chd A (A (8 + f))).isSome && (!b || decide (mis A (A (8 + f)) = 0))
theorem x_fields {A : Nat → Nat} {σ : kS} {b : Bool} (hW : WF A) (h : vx 3 σ A) (hT : 0 < A 1 → CT σ A) : R_X8_fieldsWithChord (bN b) σ (nI (orF (A 2) (fwP A b))) σ := by
  have hc := wfc hW
  refine t_X8_fieldsWithChord ?_
  have key : ∀ f, f ≤ A 2 → E_X8_fieldsWithChord_4 (bN b) (nI (orF f (fwP A b))) (nI f) σ (nI (orF (A 2) (fwP A b))) σ := by
    refine loop_up (A 2) ?_ (fun f hf ih => ?_)
    · exact t_X8_fieldsWithChord_4 ⟨fun _ => ⟨rfl, rfl⟩, fun c => absurd (by rw [h.1.2.1]; exact Int32.le_refl _) c⟩
    · have hs := hW.2.2.2.2.1 f hf
      have qt := A2_1 hW hf
      have es : σ.1 5 f = nI (A (8 + f)) := h.2.2.1 f hf
      refine t_X8_fieldsWithChord_4 ⟨fun c => absurd ((n_le (by omega) (by omega)).mp (h.1.2.1 ▸ c)) (by omega), fun _ => ?_⟩
      have hml := mis_lt (A := A) (A (8 + f))
      rw [n_N (by omega), es, n_inc, n_one f (by omega), n_or]
      refine ⟨n_in (by omega) (by decide), _, _, x_isThere (hT qt) hW hs, ?_⟩
      rw [bN_0]
      refine ⟨fun q => ?_, fun q => ⟨fun q2 => ?_, fun q2 => ⟨_, _, x_missingOf (hT qt) hW hs, ?_⟩⟩⟩
      · rw [orF_f (by unfold fwP; rw [q]; rfl)] at ih; exact ih
      · rw [orF_t (by unfold fwP; rw [(Bool.not_eq_false _).mp q, bN_0.mp q2]; rfl)] at ih; exact ih
      · rw [n_eq0 (by omega)]
        have hb : b = true := by cases b <;> simp_all [bN]
        refine ⟨fun z => ?_, fun z => ?_⟩
        · rw [orF_f (by unfold fwP; simp [hb, z])] at ih; exact ih
        · rw [orF_t (by unfold fwP; rw [(Bool.not_eq_false _).mp q]; simp [z])] at ih; exact ih
  exact key 0 (Nat.zero_le _)
theorem m_fields {A : Nat → Nat} {μ : kS} {b : Bool} (hW : WF A) (h : mr 5 μ A) : R_X9_fieldsWith (bN b) μ (nI (orF (A 2) (fwP A b))) μ := by
  have hc := wfc hW
  refine t_X9_fieldsWith ?_
  have key : ∀ f, f ≤ A 2 → E_X9_fieldsWith_4 (bN b) (nI (orF f (fwP A b))) (nI f) μ (nI (orF (A 2) (fwP A b))) μ := by
    refine loop_up (A 2) ?_ (fun f hf ih => ?_)
    · exact t_X9_fieldsWith_4 ⟨fun _ => ⟨rfl, rfl⟩, fun c => absurd (by rw [mr_n h (by decide)]; exact Int32.le_refl _) c⟩
    · have hs := hW.2.2.2.2.1 f hf
      have em : μ.1 5 (8 + f) = nI (A (8 + f)) := mr_n h (by omega)
      have l0 : fwP A b f = false → E_X9_fieldsWith_67 (bN b) (nI (orF f (fwP A b))) (nI f) 0 μ (nI (orF (A 2) (fwP A b))) μ := fun q => by
        rw [orF_f q] at ih
        refine t_X9_fieldsWith_67 ⟨fun _ => ?_, fun c => absurd rfl c⟩
        rw [or_0, n_inc]; exact ih
      have l1 : fwP A b f = true → E_X9_fieldsWith_67 (bN b) (nI (orF f (fwP A b))) (nI f) 1 μ (nI (orF (A 2) (fwP A b))) μ := fun q => by
        rw [orF_t q] at ih
        refine t_X9_fieldsWith_67 ⟨fun c => absurd c (by decide), fun _ => ?_⟩
        rw [n_one f (by omega), n_or, n_inc]; exact ih
      refine t_X9_fieldsWith_4 ⟨fun c => absurd ((n_le (by omega) (by omega)).mp (mr_n h (show 2 < 33 by decide) ▸ c)) (by omega), fun _ => ?_⟩
      have hml := mis_lt (A := A) (A (8 + f))
      rw [show (8 : Int32) = nI 8 from rfl, nI_add, n_N (by omega), em]
      refine ⟨n_in (by omega) (by decide), _, _, m_chordBy rfl h hW hs, ?_⟩
      have hm := m_missingBy (r := 5) (n := A (8 + f)) rfl h hW
      cases hcd : chd A (A (8 + f)) with
      | none => exact ⟨fun _ => l0 (by unfold fwP; rw [hcd]; rfl), fun z => absurd (by decide) z⟩
      | some c =>
        rw [hcd] at hm
        refine ⟨fun z => absurd z (n_neg (by have := chd_b hW _ c hcd; omega)), fun z => ⟨fun q => l1 (by unfold fwP; rw [hcd, bN_0.mp q]; rfl), fun q => ⟨n_in (by omega) (by decide), ?_⟩⟩⟩
        have hb : b = true := by cases b <;> simp_all [bN]
        rw [em]
        refine ⟨_, _, hm, ?_⟩
        rw [n_eq0 (by omega)]
        exact ⟨fun y => l0 (by unfold fwP; simp [hb, y]), fun y => l1 (by unfold fwP; rw [hcd]; simp [y])⟩
  exact key 0 (Nat.zero_le _)
theorem q_count {a : Int32} {σ μ : kS} (h : Inv σ μ) : ∃ x τ ν, R_X8_count a σ x τ ∧ R_X9_count a μ x ν ∧ Inv τ ν := by
  obtain ⟨A, i1, ⟨n, hn, t1, t2, -⟩, i3, ⟨c, y, S, -, -, c1, -, c2, -⟩, -⟩ := id h
  have hx := i1.2.2.1
  have hm := i1.2.2.2.1
  refine ⟨if a.toInt = 0 then nI (A 3) else if a.toInt = 1 then nI (A 2) else if a.toInt = 2 then nI (A 1) else if a.toInt = 3 then nI (A 0) else if a.toInt = 4 then nI (trd A) else if a.toInt = 5 then nI (orF (A 2) (fwP A false)) else if a.toInt = 6 then nI (orF (A 2) (fwP A true)) else if a.toInt = 7 then nI c else if a.toInt = 8 then nI n else -1, σ, μ, t_X8_count ⟨fun q => ⟨?_, rfl⟩, fun q => ⟨?_, rfl⟩, fun q => ⟨?_, rfl⟩, fun q => ⟨?_, rfl⟩, fun q => ⟨_, _, x_tired (v := 3) rfl hx i1.1, ?_, rfl⟩, fun q => ⟨_, _, x_fields (b := false) i1.1 hx i1.2.2.2.2, ?_, rfl⟩, fun q => ⟨_, _, x_fields (b := true) i1.1 hx i1.2.2.2.2, ?_, rfl⟩, fun q => ⟨?_, rfl⟩, fun q => ⟨?_, rfl⟩, fun q => ⟨?_, rfl⟩⟩, t_X9_count ⟨fun q => ⟨?_, rfl⟩, fun q => ⟨?_, rfl⟩, fun q => ⟨?_, rfl⟩, fun q => ⟨?_, rfl⟩, fun q => ⟨_, _, m_tiredOf (r := 5) rfl hm i1.1, ?_, rfl⟩, fun q => ⟨_, _, m_fields (b := false) i1.1 hm, ?_, rfl⟩, fun q => ⟨_, _, m_fields (b := true) i1.1 hm, ?_, rfl⟩, fun q => ⟨?_, rfl⟩, fun q => ⟨?_, rfl⟩, fun q => ⟨?_, rfl⟩⟩, h⟩
  all_goals first
    | (rw [q]; simp [hx.1.1, hx.1.2.1, hx.1.2.2.1, hx.1.2.2.2, c1, t1]; done)
    | (rw [q]; simp [mr_n hm, c2, t2]; done)
    | (rw [if_neg (by omega), if_neg (by omega), if_neg (by omega), if_neg (by omega), if_neg (by omega), if_neg (by omega), if_neg (by omega), if_neg (by omega), if_neg (by omega)])
