/-! the chord of a set -/
theorem csc_s (A : Nat → Nat) (n m : Nat) : csc A n (m + 1) = cst A n (csc A n m) m := by
  unfold csc
  rw [List.range_succ, List.foldl_append]
  rfl
theorem csc_lt (A : Nat → Nat) (n : Nat) : ∀ m c, (csc A n m).1 = some c → c < m ∧ nd n (crd A c) = 0 ∧ pop (crd A c) = (csc A n m).2
  | 0, c, h => by cases h
  | m + 1, c, h => by
    rw [csc_s] at h ⊢
    unfold cst at h ⊢
    split at h
    · rename_i q
      rw [if_pos q]
      cases h
      exact ⟨by omega, q.1, rfl⟩
    · rename_i q
      rw [if_neg q]
      obtain ⟨h1, h2, h3⟩ := csc_lt A n m c h
      exact ⟨by omega, h2, h3⟩
theorem csc_2 (A : Nat → Nat) (n : Nat) : ∀ m, (csc A n m).2 ≤ 13
  | 0 => Nat.le_refl _
  | m + 1 => by
    rw [csc_s]; unfold cst
    split
    · have := pop_le (crd A m); simp only; omega
    · exact csc_2 A n m
theorem chd_lt {A : Nat → Nat} {n c : Nat} (h : chd A n = some c) : c < 12 * A 1 ∧ n ≠ 0 ∧ nd n (crd A c) = 0 := by
  unfold chd at h
  split at h
  · cases h
  · rename_i q
    obtain ⟨h1, h2, -⟩ := csc_lt A n _ c h
    exact ⟨h1, q, h2⟩
theorem n_cO {s r : Nat} (hs : s < 4096) (hr : r < 12) : cO (nI s) (nI r) = nI (rot s r) := by
  have h1 : 2 ^ r ≤ 2 ^ 11 := Nat.pow_le_pow_right (by decide) (by omega)
  have h2 : s * 2 ^ r ≤ 4095 * 2 ^ 11 := Nat.mul_le_mul (by omega) h1
  unfold cO
  rw [n_shl (by omega) (by omega), show ((12 : Int32) &&& 31) = nI 12 &&& 31 from rfl, n_shr (by omega) (by decide), n_or, show (4095 : Int32) = nI 4095 from rfl, n_and]
  rfl
theorem cI_some (c : Nat) : cI (some c) = nI c := rfl
theorem crd_at {A : Nat → Nat} {k r : Nat} (hr : r < 12) : crd A (12 * k + r) = rot (A (4 + k)) r := by
  unfold crd
  rw [show (12 * k + r) / 12 = k by omega, show (12 * k + r) % 12 = r by omega]
theorem m_chordBy {r n : Nat} {σ : kS} {A : Nat → Nat} (hr : k_is SM r 1 38 = true) (h : mr r σ A) (hW : WF A) (hn : n < 4096) : R_X9_chordBy r (nI n) σ (cI (chd A n)) σ := by
  refine t_X9_chordBy hr ?_
  have h1 := (wfc hW).1
  by_cases h0 : n = 0
  · subst h0
    refine t_X9_chordBy_8 hr ⟨fun _ => ⟨rfl, rfl⟩, fun _ => ⟨fun _ => ⟨rfl, rfl⟩, fun c => absurd nI_0 c⟩⟩
  have ec : chd A n = (csc A n (12 * A 1)).1 := by unfold chd; rw [if_neg h0]
  have key : ∀ k, k ≤ A 1 → E_X9_chordBy_8 r (nI n) (cI (csc A n (12 * k)).1) (nI (csc A n (12 * k)).2) (nI k) σ (cI (chd A n)) σ := by
    refine loop_up (A 1) ?_ (fun k hk ih => ?_)
    · exact t_X9_chordBy_8 hr ⟨fun _ => ⟨by rw [ec], rfl⟩, fun c => absurd (by rw [mr_n h (by decide)]; exact Int32.le_refl _) c⟩
    · refine t_X9_chordBy_8 hr ⟨fun c => absurd ((n_le (by omega) (by omega)).mp (mr_n h (show 1 < 33 by decide) ▸ c)) (by omega), fun _ => ⟨fun c => absurd ((n_eq0 (by omega)).mp c) h0, fun _ => ?_⟩⟩
      obtain ⟨hs, hp, hp5⟩ := hW.2.2.2.1 k hk
      have key2 : ∀ q, q ≤ 12 → E_X9_chordBy_23 r (nI n) (cI (csc A n (12 * k + q)).1) (nI (csc A n (12 * k + q)).2) (nI k) (nI q) σ (cI (chd A n)) σ := by
        refine loop_up 12 ?_ (fun q hq ih2 => ?_)
        · refine t_X9_chordBy_23 hr ⟨fun _ => ?_, fun c => absurd (Int32.le_refl _) c⟩
          rw [n_inc, show 12 * k + 12 = 12 * (k + 1) by omega]
          exact ih
        · refine t_X9_chordBy_23 hr ⟨fun c => absurd ((n_le (a := 12) (by decide) (by omega)).mp c) (by omega), fun _ => ?_⟩
          rw [show (4 : Int32) = nI 4 from rfl, nI_add, n_N (by omega), mr_n h (show 4 + k < 33 by omega), n_cO hs hq, n_nd, n_eq0 (Nat.lt_of_le_of_lt (nd_le _ _) (by omega)), n_inc]
          refine ⟨n_in (by omega) (by decide), fun c => ?_, fun c => ⟨_, _, m_bits (rot_lt _ _), fun c2 => ?_, fun c2 => ⟨_, _, m_bits (rot_lt _ _), ?_⟩⟩⟩
          · have e : csc A n (12 * k + q + 1) = csc A n (12 * k + q) := by
              rw [csc_s, cst, crd_at hq, if_neg (fun z => c z.1)]
            rw [show 12 * k + (q + 1) = 12 * k + q + 1 by omega, e] at ih2
            exact ih2
          · have c3 := (n_le (Nat.lt_of_le_of_lt (csc_2 A n _) (by decide)) (Nat.lt_of_le_of_lt (pop_le _) (by decide))).mp c2
            have e : csc A n (12 * k + q + 1) = csc A n (12 * k + q) := by
              rw [csc_s, cst, crd_at hq, if_neg (fun z => by have := z.2; omega)]
            rw [show 12 * k + (q + 1) = 12 * k + q + 1 by omega, e] at ih2
            exact ih2
          · have c3 := mt (n_le (Nat.lt_of_le_of_lt (csc_2 A n (12 * k + q)) (by decide)) (Nat.lt_of_le_of_lt (pop_le (rot (A (4 + k)) q)) (by decide))).mpr c2
            have e : csc A n (12 * k + q + 1) = (some (12 * k + q), pop (rot (A (4 + k)) q)) := by
              rw [csc_s, cst, crd_at hq, if_pos ⟨c, by omega⟩]
            rw [show 12 * k + (q + 1) = 12 * k + q + 1 by omega, e] at ih2
            rw [show (12 : Int32) = nI 12 from rfl, pk_mul, nI_add]
            exact ih2
      exact key2 0 (Nat.zero_le _)
  exact key 0 (Nat.zero_le _)
theorem cI_neg : ¬ (0 : Int32) ≤ cI none := by decide
theorem cI_pos {c : Nat} (h : c < 2 ^ 31) : (0 : Int32) ≤ cI (some c) := nI_pos' h
theorem n_div {a : Nat} (h : a < 2 ^ 31) : nI a / 12 = nI (a / 12) := pk_div (d := 12) h (by decide) (by decide)
theorem n_rem {a : Nat} (h : a < 2 ^ 31) : nI a - nI a / 12 * 12 = nI (a % 12) := pk_rem (d := 12) h (by decide) (by decide)
theorem m_missingBy {r n : Nat} {σ : kS} {A : Nat → Nat} (hr : k_is SM r 1 38 = true) (h : mr r σ A) (hW : WF A) : R_X9_missingBy r (nI n) (cI (chd A n)) σ (nI (mis A n)) σ := by
  have h1 := (wfc hW).1
  refine t_X9_missingBy hr ?_
  cases hc : chd A n with
  | none => exact ⟨fun c => absurd c cI_neg, fun _ => ⟨by unfold mis; rw [hc]; rfl, rfl⟩⟩
  | some c =>
    obtain ⟨h2, -, -⟩ := chd_lt hc
    refine ⟨fun _ => ?_, fun q => absurd (cI_pos (by omega)) q⟩
    obtain ⟨hs, -, -⟩ := hW.2.2.2.1 (c / 12) (by omega)
    rw [cI_some, n_rem (by omega), n_div (by omega), show (4 : Int32) = nI 4 from rfl, nI_add, n_N (by omega), mr_n h (show 4 + c / 12 < 33 by omega), n_cO hs (Nat.mod_lt _ (by decide)), n_nd]
    refine ⟨n_in (by omega) (by decide), ?_, rfl⟩
    unfold mis
    rw [hc]
    rfl
theorem m_rangeOf {r i : Nat} {σ : kS} {A : Nat → Nat} (hr : k_is SM r 1 38 = true) (h : mr r σ A) (hW : WF A) (hi : i < A 3) : R_X9_rangeOf r (nI i) σ (nI (rng A i)) σ := by
  have h5 := (wfc hW).2.2
  obtain ⟨-, hlh, -⟩ := hW.2.2.2.2.2 i hi
  refine t_X9_rangeOf hr ?_
  rw [show (23 : Int32) = nI 23 from rfl, show (18 : Int32) = nI 18 from rfl, nI_add, nI_add, n_N (by omega), n_N (by omega), mr_n h (show 23 + i < 33 by omega), mr_n h (show 18 + i < 33 by omega), n_two _ (by omega), n_one _ (by omega), pk_sub]
  · exact ⟨n_in (by omega) (by decide), n_in (by omega) (by decide), rfl, rfl⟩
  · exact Nat.pow_le_pow_right (by decide) (by omega)
theorem or_0 (x : Int32) : x ||| 0 = x := by simp
theorem m_whoAt {r f : Nat} {σ : kS} {A : Nat → Nat} (hr : k_is SM r 1 38 = true) (h : mr r σ A) (hW : WF A) (hf : f < 9) : R_X9_whoAt r (nI f) σ (nI (who A f)) σ := by
  refine t_X9_whoAt hr ?_
  have h5 := (wfc hW).2.2
  have h2 := (wfc hW).2.1
  have key : ∀ i, i ≤ A 3 → E_X9_whoAt_4 r (nI f) (nI (orF i (fun i => decide (A (33 + i) = f)))) (nI i) σ (nI (who A f)) σ := by
    refine loop_up (A 3) ?_ (fun i hi ih => ?_)
    · exact t_X9_whoAt_4 hr ⟨fun _ => ⟨rfl, rfl⟩, fun c => absurd (by rw [mr_n h (by decide)]; exact Int32.le_refl _) c⟩
    · refine t_X9_whoAt_4 hr ⟨fun c => absurd ((n_le (by omega) (by omega)).mp (mr_n h (show 3 < 33 by decide) ▸ c)) (by omega), fun _ => ?_⟩
      have ht := (hW.2.2.2.2.2 i hi).2.2.2
      rw [show (33 : Int32) = nI 33 from rfl, nI_add, n_N (by omega), h (33 + i) (by omega), n_inc, n_one i (by omega), n_or, or_0, vI_at (by omega) hf (by omega)]
      refine ⟨n_in (by omega) (by decide), fun c => ?_, fun c => ?_⟩
      · rw [orF_f (decide_eq_false c)] at ih
        exact ih
      · rw [orF_t (decide_eq_true c)] at ih
        exact ih
  exact key 0 (Nat.zero_le _)
/-! the class's table -/
def CT (σ : kS) (A : Nat → Nat) : Prop := (∀ n, n < 4096 → σ.1 26 n = cI (chd A n)) ∧ ∀ c, c < 12 * A 1 → σ.1 25 c = nI (crd A c)
def bN (b : Bool) : Int32 := if b then 1 else 0
theorem bN_0 {b : Bool} : bN b = 0 ↔ b = false := by cases b <;> decide
theorem cI_m1 {c : Option Nat} (h : ∀ k, c = some k → k < 2 ^ 31) : cI c = -1 ↔ c = none := by
  cases c with
  | none => simp [cI]
  | some k =>
    have := cI_pos (h k rfl)
    constructor
    · intro q; rw [q] at this; exact absurd this (by decide)
    · intro q; cases q
theorem chd_b {A : Nat → Nat} (hW : WF A) (n : Nat) : ∀ k, chd A n = some k → k < 48 := fun k hk => by
  have := (chd_lt hk).1
  have := (wfc hW).1
  omega
theorem x_isThere {n : Nat} {σ : kS} {A : Nat → Nat} (h : CT σ A) (hW : WF A) (hn : n < 4096) : R_X2_isThere (nI n) σ (bN (chd A n).isSome) σ := by
  refine t_X2_isThere ⟨n_in hn (by decide), ?_⟩
  rw [n_N (by omega), h.1 n hn, cI_m1 (fun k hk => by have := chd_b hW n k hk; omega)]
  refine ⟨fun c => ⟨by rw [c]; rfl, rfl⟩, fun c => ⟨?_, rfl⟩⟩
  cases hc : chd A n with
  | none => exact absurd hc c
  | some k => rfl
theorem x_missingOf {n : Nat} {σ : kS} {A : Nat → Nat} (h : CT σ A) (hW : WF A) (hn : n < 4096) : R_X2_missingOf (nI n) σ (nI (mis A n)) σ := by
  refine t_X2_missingOf ⟨_, _, x_isThere h hW hn, ?_⟩
  rw [bN_0, n_N (by omega), h.1 n hn]
  unfold mis
  cases hc : chd A n with
  | none => exact ⟨fun _ => ⟨rfl, rfl⟩, fun c => absurd rfl c⟩
  | some k =>
    have := chd_b hW n k hc
    refine ⟨fun c => (by cases c), fun _ => ⟨n_in hn (by decide), n_in (by omega) (by decide), ?_, rfl⟩⟩
    rw [cI_some, n_N (by omega), h.2 k (chd_lt hc).1, n_nd]
theorem x_rootOf {n : Nat} {σ : kS} {A : Nat → Nat} (h : CT σ A) (hW : WF A) (hn : n < 4096) : R_X2_rootOf (nI n) σ (match chd A n with
    | none => -4
    | some c => nI (c % 12)) σ := by
  refine t_X2_rootOf ⟨_, _, x_isThere h hW hn, ?_⟩
  rw [bN_0, n_N (by omega), h.1 n hn]
  cases hc : chd A n with
  | none => exact ⟨fun _ => ⟨rfl, rfl⟩, fun c => absurd rfl c⟩
  | some k =>
    have := chd_b hW n k hc
    exact ⟨fun c => (by cases c), fun _ => ⟨n_in hn (by decide), by rw [cI_some, n_rem (by omega)], rfl⟩⟩
theorem x_shapeOf {n : Nat} {σ : kS} {A : Nat → Nat} (h : CT σ A) (hW : WF A) (hn : n < 4096) : R_X2_shapeOf (nI n) σ (match chd A n with
    | none => -4
    | some c => nI (c / 12)) σ := by
  refine t_X2_shapeOf ⟨_, _, x_isThere h hW hn, ?_⟩
  rw [bN_0, n_N (by omega), h.1 n hn]
  cases hc : chd A n with
  | none => exact ⟨fun _ => ⟨rfl, rfl⟩, fun c => absurd rfl c⟩
  | some k =>
    have := chd_b hW n k hc
    exact ⟨fun c => (by cases c), fun _ => ⟨n_in hn (by decide), by rw [cI_some, n_div (by omega)], rfl⟩⟩
