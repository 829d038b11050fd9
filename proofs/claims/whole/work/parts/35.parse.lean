/-! both read the tape in step -/
def TP (n p : Nat) (σ μ : kS) : Prop := n ≤ 130 ∧ p ≤ n ∧ σ.1 1 1 = nI n ∧ σ.1 1 2 = nI p ∧ μ.1 0 3 = nI n ∧ μ.1 0 5 = nI p ∧ ∀ i, i < n → ∃ b, b < 256 ∧ σ.1 2 i = nI b ∧ μ.1 4 i = nI b
def LW : List Nat := [1, 11, 12, 13, 14, 15, 16, 17, 18]
def SW (σ σ' μ μ' : kS) : Prop := fr LW σ σ' ∧ fr [0, 6] μ μ' ∧ μ'.1 0 12 = μ.1 0 12
theorem SW_rf {σ μ : kS} : SW σ σ μ μ := ⟨fr_rf, fr_rf, rfl⟩
theorem SW_tr {σ σ1 σ2 μ μ1 μ2 : kS} (h : SW σ σ1 μ μ1) (h2 : SW σ1 σ2 μ1 μ2) : SW σ σ2 μ μ2 := ⟨fr_tr h.1 h2.1, fr_tr h.2.1 h2.2.1, h2.2.2.trans h.2.2⟩
theorem TP_kp {n p : Nat} {σ μ τ ν : kS} (h : TP n p σ μ) (h1 : τ.1 1 = σ.1 1) (h2 : τ.1 2 = σ.1 2) (h3 : ν.1 0 = μ.1 0) (h4 : ν.1 4 = μ.1 4) : TP n p τ ν := by
  unfold TP; rw [h1, h2, h3, h4]; exact h
def uX (σ : kS) (p : Nat) : kS := k_si σ 1 2 (nI (p + 1))
def uM (μ : kS) (p : Nat) : kS := k_si μ 0 5 (nI (p + 1))
theorem TP_up {n p : Nat} {σ μ : kS} (h : TP n p σ μ) (hp : p < n) : TP n (p + 1) (uX σ p) (uM μ p) := by
  obtain ⟨a, b, c, d, e, f, g⟩ := h
  refine ⟨a, by omega, ?_, k_si_at, ?_, k_si_at, fun i hi => ?_⟩
  · unfold uX; rw [s_i, if_pos rfl, if_neg (by decide)]; exact c
  · unfold uM; rw [s_i, if_pos rfl, if_neg (by decide)]; exact e
  · unfold uX uM; rw [k_si_o (by decide), k_si_o (by decide)]; exact g i hi
theorem SW_up {p q : Nat} {σ μ : kS} : SW σ (uX σ p) μ (uM μ q) := ⟨fr_si (by decide), fr_si (by decide), by unfold uM; rw [s_i, if_pos rfl, if_neg (by decide)]⟩
theorem uXo {σ : kS} {p k : Nat} (h : k ≠ 1) : (uX σ p).1 k = σ.1 k := k_si_o h
theorem uMo {σ : kS} {p k : Nat} (h : k ≠ 0) : (uM σ p).1 k = σ.1 k := k_si_o h
theorem p_peek {n p : Nat} {σ μ : kS} (h : TP n p σ μ) : ∃ x, R_X6_peek σ x σ ∧ R_X9_peek μ x μ ∧ (x = -1 ∨ ∃ b, b < 256 ∧ x = nI b ∧ p < n) := by
  obtain ⟨a, b, c, d, e, f, g⟩ := h
  by_cases q : p = n
  · refine ⟨-1, t_X6_peek ⟨fun _ => ⟨rfl, rfl⟩, fun z => absurd ?_ z⟩, t_X9_peek ⟨fun _ => ⟨rfl, rfl⟩, fun z => absurd ?_ z⟩, Or.inl rfl⟩
    · rw [c, d, q]; exact Int32.le_refl _
    · rw [e, f, q]; exact Int32.le_refl _
  · obtain ⟨b', b1, b2, b3⟩ := g p (by omega)
    refine ⟨nI b', t_X6_peek ⟨fun z => ?_, fun _ => ?_⟩, t_X9_peek ⟨fun z => ?_, fun _ => ?_⟩, Or.inr ⟨b', b1, rfl, by omega⟩⟩
    · rw [c, d, n_le (by omega) (by omega)] at z; omega
    · rw [d, n_N (by omega), b2]; exact ⟨n_in (by omega) (by decide), rfl, rfl⟩
    · rw [e, f, n_le (by omega) (by omega)] at z; omega
    · rw [f, n_N (by omega), b3]; exact ⟨n_in (by omega) (by decide), rfl, rfl⟩
theorem nb_m1 {b : Nat} (h : b < 256) : ¬ nI b = -1 := fun c => by
  have := congrArg Int32.toInt c
  rw [n_T (by omega), show (-1 : Int32).toInt = -1 from rfl] at this
  omega
theorem p_take {n p c : Nat} {σ μ : kS} (hc : c < 256) (h : TP n p σ μ) : (R_X6_take (nI c) σ 1 (uX σ p) ∧ R_X9_isSign (nI c) μ 1 (uM μ p) ∧ p < n) ∨ (R_X6_take (nI c) σ 0 σ ∧ R_X9_isSign (nI c) μ 0 μ) := by
  obtain ⟨x, x1, x2, x3⟩ := p_peek h
  by_cases q : x = nI c
  · have hp : p < n := by
      rcases x3 with z | ⟨b, b1, b2, b3⟩
      · exact absurd (q.symm.trans z) (nb_m1 hc)
      · exact b3
    refine Or.inl ⟨t_X6_take ⟨_, _, x1, fun _ => ⟨rfl, ?_⟩, fun z => absurd q z⟩, t_X9_isSign ⟨_, _, x2, fun _ => ⟨rfl, ?_⟩, fun z => absurd q z⟩, hp⟩
    · rw [h.2.2.2.1, n_inc]; rfl
    · rw [h.2.2.2.2.2.1, n_inc]; rfl
  · exact Or.inr ⟨t_X6_take ⟨_, _, x1, fun z => absurd z q, fun _ => ⟨rfl, rfl⟩⟩, t_X9_isSign ⟨_, _, x2, fun z => absurd z q, fun _ => ⟨rfl, rfl⟩⟩⟩
theorem p_pitch {n p : Nat} {σ μ : kS} (h : TP n p σ μ) : (R_X6_peekPitch σ (-1) σ ∧ R_X9_pitchThere μ (-1) μ) ∨ ∃ k, k < 12 ∧ p < n ∧ R_X6_peekPitch σ (nI k) σ ∧ R_X9_pitchThere μ (nI k) μ := by
  obtain ⟨x, x1, x2, x3⟩ := p_peek h
  rcases x3 with rfl | ⟨b, b1, rfl, b3⟩
  · exact Or.inl ⟨t_X6_peekPitch ⟨_, _, x1, fun _ => t_X6_peekPitch_22 ⟨fun c => absurd c (by decide), fun _ => ⟨fun _ => ⟨rfl, rfl⟩, fun c => absurd c (by decide)⟩⟩, fun c => absurd (show (-1 : Int32) < 48 by decide) c⟩, t_X9_pitchThere ⟨_, _, x2, fun _ => ⟨fun _ => ⟨fun _ => ⟨rfl, rfl⟩, fun c => absurd c (by decide)⟩, fun c => absurd c (by decide)⟩, fun c => absurd c.1 (by decide)⟩⟩
  · have e48 : (nI b < 48 ↔ b < 48) := nI_ltI (b := 48) (by omega) (by decide)
    have e57 : ((57 : Int32) < nI b ↔ 57 < b) := nI_ltI (a := 57) (by decide) (by omega)
    have e97 : (nI b = 97 ↔ b = 97) := nI_eq (b := 97) (by omega) (by decide)
    have e98 : (nI b = 98 ↔ b = 98) := nI_eq (b := 98) (by omega) (by decide)
    have ei : iv (nI b) 48 57 ↔ (48 ≤ b ∧ b ≤ 57) := by
      unfold iv; rw [n_T (by omega), show (48 : Int32).toInt = 48 from rfl, show (57 : Int32).toInt = 57 from rfl]; omega
    by_cases q : 48 ≤ b ∧ b ≤ 57
    · have es : nI b - 48 = nI (b - 48) := pk_sub (b := 48) (by omega)
      refine Or.inr ⟨b - 48, by omega, b3, t_X6_peekPitch ⟨_, _, x1, fun c => absurd (e48.mp c) (by omega), fun _ => ⟨fun c => absurd (e57.mp c) (by omega), fun _ => ⟨es.symm, rfl⟩⟩⟩, t_X9_pitchThere ⟨_, _, x2, fun c => absurd (ei.mpr q) c, fun _ => ⟨es.symm, rfl⟩⟩⟩
    · have hx : ∀ {y τ}, E_X6_peekPitch_22 (nI b) σ y τ → R_X6_peekPitch σ y τ := fun {y τ} z => t_X6_peekPitch ⟨_, _, x1, fun _ => z, fun c => ⟨fun _ => z, fun c2 => absurd (by rw [e57]; rw [e48] at c; omega) c2⟩⟩
      by_cases q7 : b = 97
      · subst q7
        exact Or.inr ⟨10, by decide, b3, hx (t_X6_peekPitch_22 ⟨fun _ => ⟨rfl, rfl⟩, fun c => absurd rfl c⟩), t_X9_pitchThere ⟨_, _, x2, fun _ => ⟨fun c => absurd rfl c, fun _ => ⟨rfl, rfl⟩⟩, fun c => absurd (ei.mp c) q⟩⟩
      · by_cases q8 : b = 98
        · subst q8
          exact Or.inr ⟨11, by decide, b3, hx (t_X6_peekPitch_22 ⟨fun c => absurd (e97.mp c) q7, fun _ => ⟨fun c => absurd rfl c, fun _ => ⟨rfl, rfl⟩⟩⟩), t_X9_pitchThere ⟨_, _, x2, fun _ => ⟨fun _ => ⟨fun c => absurd rfl c, fun _ => ⟨rfl, rfl⟩⟩, fun c => absurd (e97.mp c) q7⟩, fun c => absurd (ei.mp c) q⟩⟩
        · exact Or.inl ⟨hx (t_X6_peekPitch_22 ⟨fun c => absurd (e97.mp c) q7, fun _ => ⟨fun _ => ⟨rfl, rfl⟩, fun c => absurd (e98.mp c) q8⟩⟩), t_X9_pitchThere ⟨_, _, x2, fun _ => ⟨fun _ => ⟨fun _ => ⟨rfl, rfl⟩, fun c => absurd (e98.mp c) q8⟩, fun c => absurd (e97.mp c) q7⟩, fun c => absurd (ei.mp c) q⟩⟩
theorem popL_or (m k : Nat) : ∀ j, popL j (m ||| 2 ^ k) ≤ popL j m + (if k < j then 1 else 0)
  | 0 => by simp [popL]
  | j + 1 => by
    have ih := popL_or m k j
    have hb : (m ||| 2 ^ k) / 2 ^ j % 2 ≤ m / 2 ^ j % 2 + (if k = j then 1 else 0) := by
      by_cases q : k = j
      · rw [if_pos q]; omega
      · have := Nat.testBit_or m (2 ^ k) j
        rw [Nat.testBit_two_pow_of_ne q, Bool.or_false] at this
        rw [Nat.testBit_eq_decide_div_mod_eq, Nat.testBit_eq_decide_div_mod_eq] at this
        have h2 := decide_eq_decide.mp this
        rw [if_neg q]; omega
    unfold popL
    by_cases q : k < j
    · rw [if_pos q] at ih; rw [if_pos (by omega)]; rw [if_neg (by omega)] at hb; omega
    · rw [if_neg q] at ih
      by_cases q2 : k = j
      · rw [if_pos q2] at hb; rw [if_pos (by omega)]; omega
      · rw [if_neg q2] at hb; rw [if_neg (by omega)]; omega
theorem pop_or (m k : Nat) : pop (m ||| 2 ^ k) ≤ pop m + 1 := by
  have := popL_or m k 12
  unfold pop; split at this <;> omega
theorem pop_0 : pop 0 = 0 := by decide
/-- rising pitches, M of them at most -/
theorem p_rise {n M : Nat} (hM : M ≤ 12) : ∀ f c, c + f = M → ∀ (p m : Nat) (l y : Int32) (σ μ : kS), TP n p σ μ → m < 4096 → pop m ≤ c → (-1 : Int32) ≤ l → R_X6_peekPitch σ y σ → (y = -1 ∨ ∃ k, k < 12 ∧ y = nI k ∧ p < n) →
    ∃ p' m' σ' μ', m' < 4096 ∧ pop m' ≤ M ∧ E_X6_takeRising_7 (nI M) (nI m) l (nI c) σ (nI m') σ' ∧ E_X9_pitches_13 (nI M) (nI m) l (nI c) y μ (nI m') μ' ∧ TP n p' σ' μ' ∧ fr [1] σ σ' ∧ fr [0] μ μ' ∧ μ'.1 0 12 = μ.1 0 12 := by
  intro f
  induction f with
  | zero =>
    intro c hc p m l y σ μ ht hm hp hl r1 r2
    have : c = M := by omega
    subst this
    exact ⟨p, m, σ, μ, hm, hp, t_X6_takeRising_7 ⟨fun _ => ⟨rfl, rfl⟩, fun z => absurd (Int32.le_refl _) z⟩, t_X9_pitches_13 ⟨fun _ => ⟨rfl, rfl⟩, fun _ => ⟨fun _ => ⟨rfl, rfl⟩, fun z => absurd (Int32.le_refl _) z⟩⟩, ht, fr_rf, fr_rf, rfl⟩
  | succ f ih =>
    intro c hc p m l y σ μ ht hm hp hl r1 r2
    have hle : ¬ nI M ≤ nI c := nI_ge (by omega) (by omega)
    by_cases q : y ≤ l
    · exact ⟨p, m, σ, μ, hm, by omega, t_X6_takeRising_7 ⟨fun _ => ⟨rfl, rfl⟩, fun _ => ⟨_, _, r1, fun _ => ⟨rfl, rfl⟩, fun z => absurd q z⟩⟩, t_X9_pitches_13 ⟨fun _ => ⟨rfl, rfl⟩, fun z => absurd q z⟩, ht, fr_rf, fr_rf, rfl⟩
    · rcases r2 with rfl | ⟨k, hk, rfl, hpn⟩
      · exact absurd hl q
      · have ht' := TP_up ht hpn
        have hor : (nI m ||| ((1 : Int32) <<< (nI k &&& 31))) = nI (m ||| 2 ^ k) := by rw [n_one k (by omega), n_or]
        have hm' : m ||| 2 ^ k < 4096 := or_lt (n := 12) hm (p_lt hk)
        have hp' : pop (m ||| 2 ^ k) ≤ c + 1 := by have := pop_or m k; omega
        have hl' : (-1 : Int32) ≤ nI k := by rw [le_I, n_T (by omega), show (-1 : Int32).toInt = -1 from rfl]; omega
        have hy : ∃ y, R_X6_peekPitch (uX σ p) y (uX σ p) ∧ R_X9_pitchThere (uM μ p) y (uM μ p) ∧ (y = -1 ∨ ∃ k, k < 12 ∧ y = nI k ∧ p + 1 < n) := by
          rcases p_pitch ht' with ⟨a, b⟩ | ⟨k', a, b, c, d⟩
          · exact ⟨-1, a, b, Or.inl rfl⟩
          · exact ⟨nI k', c, d, Or.inr ⟨k', a, rfl, b⟩⟩
        obtain ⟨y', y1, y2, y3⟩ := hy
        obtain ⟨p', m', σ', μ', g1, g2, g3, g4, g5, g6, g7, g8⟩ := ih (c + 1) (by omega) (p + 1) (m ||| 2 ^ k) (nI k) y' (uX σ p) (uM μ p) ht' hm' hp' hl' y1 y3
        refine ⟨p', m', σ', μ', g1, g2, t_X6_takeRising_7 ⟨fun z => absurd z hle, fun _ => ⟨_, _, r1, fun z => absurd z q, fun _ => ⟨_, _, r1, ?_⟩⟩⟩, t_X9_pitches_13 ⟨fun z => absurd z q, fun _ => ⟨fun z => absurd z hle, fun _ => ⟨y', uM μ p, ?_, ?_⟩⟩⟩, g5, fr_tr (fr_si (by simp)) g6, fr_tr (fr_si (by simp)) g7, ?_⟩
        · rw [hor, n_inc, ht.2.2.2.1, n_inc]; exact g3
        · rw [ht.2.2.2.2.2.1, n_inc]; exact y2
        · rw [hor, n_inc]; exact g4
        · rw [g8]; unfold uM; rw [s_i, if_pos rfl, if_neg (by decide)]
theorem p_rising {n p M : Nat} {σ μ : kS} (hM : M ≤ 12) (ht : TP n p σ μ) : ∃ p' m' σ' μ', m' < 4096 ∧ pop m' ≤ M ∧ R_X6_takeRising (nI M) σ (nI m') σ' ∧ R_X9_pitches (nI M) μ (nI m') μ' ∧ TP n p' σ' μ' ∧ fr [1] σ σ' ∧ fr [0] μ μ' ∧ μ'.1 0 12 = μ.1 0 12 := by
  have hy : ∃ y, R_X6_peekPitch σ y σ ∧ R_X9_pitchThere μ y μ ∧ (y = -1 ∨ ∃ k, k < 12 ∧ y = nI k ∧ p < n) := by
    rcases p_pitch ht with ⟨a, b⟩ | ⟨k', a, b, c, d⟩
    · exact ⟨-1, a, b, Or.inl rfl⟩
    · exact ⟨nI k', c, d, Or.inr ⟨k', a, rfl, b⟩⟩
  obtain ⟨y, y1, y2, y3⟩ := hy
  obtain ⟨p', m', σ', μ', g1, g2, g3, g4, g5⟩ := p_rise hM M 0 (by omega) p 0 (-1) y σ μ ht (by decide) (by decide) (Int32.le_refl _) y1 y3
  exact ⟨p', m', σ', μ', g1, g2, t_X6_takeRising g3, t_X9_pitches ⟨_, _, y2, g4⟩, g5⟩
/-- what is read so far -/
def PW (D : Nat → Nat) : Prop := D 0 = 0 ∧ (D 1 ≤ 4 ∧ D 2 ≤ 5 ∧ D 3 ≤ 5) ∧ (∀ i, i < D 1 → D (4 + i) < 4096 ∧ 2 ≤ pop (D (4 + i)) ∧ pop (D (4 + i)) ≤ 5) ∧ (∀ i, i < D 2 → D (8 + i) < 4096) ∧ (∀ i, i < 5 → D (28 + i) = 0) ∧
  ∀ i, i < D 3 → (1 ≤ D (13 + i) ∧ D (13 + i) ≤ 5) ∧ (D (18 + i) ≤ D (23 + i) ∧ D (23 + i) ≤ 11) ∧ (D (33 + i) < D 2 ∨ D (33 + i) = 9)
def PD (D : Nat → Nat) (σ μ : kS) : Prop := vx 11 σ D ∧ mr 6 μ D ∧ PW D ∧ ∀ i, i < 5 → σ.1 18 i = 0
def uA (D : Nat → Nat) (j v k : Nat) : Nat := if k = j then v else D k
theorem mr_u {r j v : Nat} {μ : kS} {D : Nat → Nat} (h : mr r μ D) (hj : j < 33 ∨ v ≠ 9) : mr r (k_si μ r j (nI v)) (uA D j v) := by
  intro i hi
  rw [s_i, if_pos rfl]
  unfold vI uA
  by_cases q : i = j
  · rw [if_pos q, if_pos q, if_neg (by omega)]
  · rw [if_neg q, if_neg q]; exact h i hi
theorem mr_u9 {r j : Nat} {μ : kS} {D : Nat → Nat} (h : mr r μ D) (hj : 33 ≤ j) : mr r (k_si μ r j (-4)) (uA D j 9) := by
  intro i hi
  rw [s_i, if_pos rfl]
  unfold vI uA
  by_cases q : i = j
  · rw [if_pos q, if_pos q, if_pos ⟨by omega, rfl⟩]
  · rw [if_neg q, if_neg q]; exact h i hi
def FL (n : Nat) (σ σ' μ μ' : kS) : Prop := SW σ σ' μ μ' ∧ ∃ p, TP n p σ' μ'
/-- a list of at most M, parted by commas -/
theorem p_list {n M c : Nat} (hM : M ≤ 5) {E22 E2 Rd It : Int32 → kS → Int32 → kS → Prop} {Pre : (Nat → Nat) → Prop}
    (hPre : ∀ D D', Pre D → (∀ j, j < 4 → j ≠ c → D' j = D j) → Pre D')
    (hc : c < 4)
    (e2a : ∀ σ, E2 (nI M) σ 1 σ)
    (e2b : ∀ i σ x s y τ, 0 < i → i < M → R_X6_take 44 σ x s → (¬ x = 0 → E22 (nI i) s y τ) → (x = 0 → y = 1 ∧ τ = s) → E2 (nI i) σ y τ)
    (rdf : ∀ μ s, It 0 μ 0 s → Rd 1 μ 0 s)
    (rds : ∀ μ s y ν, It 0 μ 1 s → (nI M ≤ s.1 6 c → Rd 0 s y ν) → (¬ nI M ≤ s.1 6 c → ∃ x t, R_X9_isSign 44 s x t ∧ (x = 0 → Rd 0 t y ν) ∧ (¬ x = 0 → Rd 1 t y ν)) → Rd 1 μ y ν)
    (item : ∀ i p σ μ D, i < M → TP n p σ μ → PD D σ μ → D c = i → Pre D →
      (∃ σ' μ', E22 (nI i) σ 0 σ' ∧ It 0 μ 0 μ' ∧ FL n σ σ' μ μ') ∨
      (∃ σ' μ' p' D', (∀ y τ, E2 (nI (i + 1)) σ' y τ → E22 (nI i) σ y τ) ∧ It 0 μ 1 μ' ∧ SW σ σ' μ μ' ∧ TP n p' σ' μ' ∧ PD D' σ' μ' ∧ D' c = i + 1 ∧ ∀ j, j < 4 → j ≠ c → D' j = D j)) :
    ∀ f i, i + f + 1 = M → ∀ p σ μ D, TP n p σ μ → PD D σ μ → D c = i → Pre D →
      (∃ σ' μ', E22 (nI i) σ 0 σ' ∧ Rd 1 μ 0 μ' ∧ FL n σ σ' μ μ') ∨
      (∃ σ' μ' p' D', E22 (nI i) σ 1 σ' ∧ (∀ y ν, Rd 0 μ' y ν → Rd 1 μ y ν) ∧ SW σ σ' μ μ' ∧ TP n p' σ' μ' ∧ PD D' σ' μ' ∧ 0 < D' c ∧ ∀ j, j < 4 → j ≠ c → D' j = D j)
  | f, i, hf, p, σ, μ, D, ht, hd, hi, hp => by
    rcases item i p σ μ D (by omega) ht hd hi hp with ⟨σ', μ', a1, a2, a3⟩ | ⟨σ1, μ1, p1, D1, a1, a2, a3, a4, a5, a6, a7⟩
    · exact Or.inl ⟨σ', μ', a1, rdf _ _ a2, a3⟩
    · have ec : μ1.1 6 c = nI (i + 1) := by rw [mr_n a5.2.1 (by omega), a6]
      cases f with
      | zero =>
        have e : i + 1 = M := by omega
        refine Or.inr ⟨σ1, μ1, p1, D1, a1 _ _ (by rw [e]; exact e2a _), fun y ν z => rds _ _ _ _ a2 (fun _ => z) (fun c => absurd ?_ c), a3, a4, a5, by omega, a7⟩
        rw [ec, e]; exact Int32.le_refl _
      | succ f =>
        have hle : ¬ nI M ≤ μ1.1 6 c := by rw [ec]; exact nI_ge (by omega) (by omega)
        rcases p_take (c := 44) (by decide) a4 with ⟨b1, b2, b3⟩ | ⟨b1, b2⟩
        · have hd2 : PD D1 (uX σ1 p1) (uM μ1 p1) := ⟨vx_kp a5.1 (fun k q _ => uXo (by omega)), mr_kp a5.2.1 (uMo (by decide)), a5.2.2.1, fun i hi => by rw [uXo (by decide)]; exact a5.2.2.2 i hi⟩
          rcases p_list hM hPre hc e2a e2b rdf rds item f (i + 1) (by omega) (p1 + 1) _ _ D1 (TP_up a4 b3) hd2 a6 (hPre _ _ hp a7) with ⟨σ', μ', g1, g2, g3⟩ | ⟨σ', μ', p', D', g1, g2, g3, g4, g5, g6, g7⟩
          · refine Or.inl ⟨σ', μ', a1 _ _ (e2b _ _ _ _ _ _ (by omega) (by omega) b1 (fun _ => g1) (fun z => absurd z (by decide))), rds _ _ _ _ a2 (fun z => absurd z hle) (fun _ => ⟨_, _, b2, fun z => absurd z (by decide), fun _ => g2⟩), ?_⟩
            exact ⟨SW_tr a3 (SW_tr SW_up g3.1), g3.2⟩
          · refine Or.inr ⟨σ', μ', p', D', a1 _ _ (e2b _ _ _ _ _ _ (by omega) (by omega) b1 (fun _ => g1) (fun z => absurd z (by decide))), fun y ν z => rds _ _ _ _ a2 (fun z => absurd z hle) (fun _ => ⟨_, _, b2, fun z => absurd z (by decide), fun _ => g2 y ν z⟩), SW_tr a3 (SW_tr SW_up g3), g4, g5, g6, fun j h1 h2 => (g7 j h1 h2).trans (a7 j h1 h2)⟩
        · exact Or.inr ⟨σ1, μ1, p1, D1, a1 _ _ (e2b _ _ _ _ _ _ (by omega) (by omega) b1 (fun z => absurd rfl z) (fun _ => ⟨rfl, rfl⟩)), fun y ν z => rds _ _ _ _ a2 (fun z => absurd z hle) (fun _ => ⟨_, _, b2, fun _ => z, fun z => absurd rfl z⟩), a3, a4, a5, by omega, a7⟩
