/-! the class's table of chords is the reference's search -/
theorem pre_sub : ∀ (p m n : Nat), p &&& m = p → n &&& m = n → n < p → n ≤ (p - 1) &&& m := by
  intro p
  induction p using Nat.strongRecOn with
  | ind p ih =>
    intro m n hp hn hlt
    have d1 : (p &&& m) / 2 = p / 2 &&& m / 2 := Nat.and_div_two
    have d2 : (n &&& m) / 2 = n / 2 &&& m / 2 := Nat.and_div_two
    have d3 : ((p - 1) &&& m) / 2 = (p - 1) / 2 &&& m / 2 := Nat.and_div_two
    rw [hp] at d1
    rw [hn] at d2
    by_cases h2 : p % 2 = 1
    · rw [show (p - 1) / 2 = p / 2 by omega, ← d1] at d3
      omega
    · have h4 := ih (p / 2) (by omega) (m / 2) (n / 2) d1.symm d2.symm (by omega)
      rw [show (p - 1) / 2 = p / 2 - 1 by omega] at d3
      rw [← d3] at h4
      by_cases h5 : n % 2 = 1
      · have h6 : (n &&& m) % 2 = 1 := by rw [hn]; exact h5
        have h7 := (Nat.and_mod_two_eq_one.mp h6).2
        have h8 : ((p - 1) &&& m) % 2 = 1 := Nat.and_mod_two_eq_one.mpr ⟨by omega, h7⟩
        omega
      · omega
def stp : Nat → Nat → Nat → Nat
  | 0, _, _ => 0
  | f + 1, p, m => if p = 0 then 0 else 1 + stp f ((p - 1) &&& m) m
theorem stp_ok0 : ∀ a, a < 64 → ∀ b, b < 64 → (2 ≤ pop (64 * a + b) ∧ pop (64 * a + b) ≤ 5) → stp 40 (64 * a + b) (64 * a + b) + 1 = 2 ^ pop (64 * a + b) := by decide +kernel
theorem stp_ok {m : Nat} (hm : m < 4096) (hp : 2 ≤ pop m ∧ pop m ≤ 5) : stp 40 m m + 1 = 2 ^ pop m := by
  have := stp_ok0 (m / 64) (by omega) (m % 64) (by omega)
  rw [show 64 * (m / 64) + m % 64 = m by omega] at this
  exact this hp
theorem rot_ar0 : ∀ a, a < 64 → ∀ b, b < 64 → ∀ r, r < 12 → rot (64 * a + b) r = (64 * a + b) % 2 ^ (12 - r) * 2 ^ r + (64 * a + b) / 2 ^ (12 - r) := by decide +kernel
theorem popL_add (a n : Nat) : ∀ b, popL (a + b) n = popL a n + popL b (n / 2 ^ a)
  | 0 => rfl
  | b + 1 => by
    rw [show a + (b + 1) = (a + b) + 1 by omega, popL, popL, popL_add a n b, Nat.div_div_eq_div_mul, ← Nat.pow_add]; omega
theorem popL_mod (a n : Nat) : ∀ k, k ≤ a → popL k (n % 2 ^ a) = popL k n
  | 0, _ => rfl
  | k + 1, h => by
    rw [popL, popL, popL_mod a n k (by omega)]
    have e : (n % 2 ^ a).testBit k = n.testBit k := by rw [Nat.testBit_mod_two_pow]; simp; omega
    rw [Nat.testBit_eq_decide_div_mod_eq, Nat.testBit_eq_decide_div_mod_eq, decide_eq_decide] at e
    omega
theorem rot_pop {s r : Nat} (hs : s < 4096) (hr : r < 12) : pop (rot s r) = pop s := by
  have h := rot_ar0 (s / 64) (by omega) (s % 64) (by omega) r hr
  rw [show 64 * (s / 64) + s % 64 = s by omega] at h
  have e12 : 2 ^ (12 - r) * 2 ^ r = 4096 := by rw [← Nat.pow_add, show 12 - r + r = 12 by omega]
  have hh : s / 2 ^ (12 - r) < 2 ^ r := by rw [Nat.div_lt_iff_lt_mul (p_pos _), Nat.mul_comm, e12]; exact hs
  have e1 : rot s r / 2 ^ r = s % 2 ^ (12 - r) := by
    rw [h, Nat.mul_comm, Nat.mul_add_div (p_pos r), Nat.div_eq_of_lt hh]; rfl
  have e2 : rot s r % 2 ^ r = s / 2 ^ (12 - r) := by
    rw [h, Nat.mul_comm, Nat.mul_add_mod, Nat.mod_eq_of_lt hh]
  have p1 := popL_add r (rot s r) (12 - r)
  have p2 := popL_add (12 - r) s r
  rw [show r + (12 - r) = 12 by omega, e1, popL_mod _ _ _ (Nat.le_refl _), ← popL_mod r (rot s r) r (Nat.le_refl _), e2] at p1
  rw [show 12 - r + r = 12 by omega] at p2
  unfold pop
  omega
theorem x_claim {c m : Nat} {σ : kS} (hc : c < 48) (hm : m < 4096) (hp : 2 ≤ pop m ∧ pop m ≤ 5) (hn : σ.1 25 c = nI m) : ∃ τ, R_X2_claimParts (nI c) σ τ ∧ fr [26] σ τ ∧ ∀ n, n < 4096 → τ.1 26 n = if n &&& m = n ∧ 0 < n then nI c else σ.1 26 n := by
  have hb : 2 ^ pop m ≤ 2 ^ 5 := Nat.pow_le_pow_right (by decide) hp.2
  have key : ∀ s f p k σ', s < f → stp f p m = s → p &&& m = p → p < 4096 → k + s = 2 ^ pop m → fr [26] σ σ' → (∀ n, n < 4096 → σ'.1 26 n = if n &&& m = n ∧ p < n then nI c else σ.1 26 n) → ∃ τ, E_X2_claimParts_22 (nI c) (nI (2 ^ pop m)) (nI p) (nI k) σ' τ ∧ fr [26] σ τ ∧ ∀ n, n < 4096 → τ.1 26 n = if n &&& m = n ∧ 0 < n then nI c else σ.1 26 n := by
    intro s
    induction s with
    | zero =>
      intro f p k σ' hf h1 h2 h3 h4 h5 h6
      obtain ⟨f, rfl⟩ : ∃ g, f = g + 1 := ⟨f - 1, by omega⟩
      rw [stp] at h1
      have hp0 : p = 0 := by
        by_cases q : p = 0
        · exact q
        · rw [if_neg q] at h1; omega
      subst hp0
      refine ⟨σ', t_X2_claimParts_22 ⟨fun _ => rfl, fun q => absurd (nI_le (by omega) (by omega)) q⟩, h5, h6⟩
    | succ s ih =>
      intro f p k σ' hf h1 h2 h3 h4 h5 h6
      obtain ⟨f, rfl⟩ : ∃ g, f = g + 1 := ⟨f - 1, by omega⟩
      rw [stp] at h1
      have hp0 : p ≠ 0 := fun q => by rw [if_pos q] at h1; omega
      rw [if_neg hp0] at h1
      have hle : (p - 1) &&& m ≤ p - 1 := Nat.and_le_left
      have h25 : σ'.1 25 c = nI m := by rw [(h5 25 (by simp)).1]; exact hn
      obtain ⟨τ, i1, i2, i3⟩ := ih f ((p - 1) &&& m) (k + 1) (k_si σ' 26 p (nI c)) (by omega) (by omega) (by rw [Nat.and_assoc, Nat.and_self]) (by omega) (by omega) (fr_tr h5 (fr_si (by simp))) (fun n hn4 => by
        rw [k_si_s, upd]
        by_cases e : n = p
        · rw [if_pos e, if_pos ⟨by rw [e]; exact h2, by omega⟩]
        · rw [if_neg e, h6 n hn4]
          by_cases q : n &&& m = n ∧ p < n
          · rw [if_pos q, if_pos ⟨q.1, by omega⟩]
          · rw [if_neg q, if_neg]
            intro z
            have : n < p := by
              rcases Nat.lt_or_ge n p with y | y
              · exact y
              · exact absurd ⟨z.1, by omega⟩ q
            have := pre_sub p m n h2 z.1 this
            omega)
      refine ⟨τ, t_X2_claimParts_22 ⟨fun q => absurd ((n_le (by omega) (by omega)).mp q) (by omega), fun _ => ?_⟩, i2, i3⟩
      rw [n_N (show p < 2 ^ 31 by omega), n_N (show c < 2 ^ 31 by omega), h25, n_inc]
      refine ⟨n_in h3 (by decide), n_in hc (by decide), ?_⟩
      rw [show (1 : Int32) = nI 1 from rfl, pk_sub (by omega), n_and]
      exact i1
  have hst := stp_ok hm hp
  obtain ⟨τ, i1, i2, i3⟩ := key (stp 40 m m) 40 m 1 σ (by omega) rfl (Nat.and_self m) hm (by omega) fr_rf (fun n hn4 => by
    rw [if_neg]
    intro z
    have : n &&& m ≤ m := Nat.and_le_right
    omega)
  refine ⟨τ, t_X2_claimParts ?_, i2, i3⟩
  rw [n_N (by omega), hn]
  refine ⟨n_in hc (by decide), _, _, x_bits hm, n_in hc (by decide), ?_⟩
  rw [hn, n_one _ (by omega)]
  exact i1
/-! which claim stands -/
def vl (A : Nat → Nat) (n t : Nat) : Prop := t % 48 < 12 * A 1 ∧ pop (A (4 + t % 48 / 12)) = t / 48 ∧ n ≠ 0 ∧ nd n (crd A (t % 48)) = 0
/-- the least claim from t on (288 - j = t) -/
noncomputable def gr (A : Nat → Nat) (n : Nat) : Nat → Option Nat
  | 0 => none
  | j + 1 => by
    classical exact if vl A n (287 - j) then some ((287 - j) % 48) else gr A n j
theorem gr_t {A : Nat → Nat} {n j : Nat} (h : vl A n (287 - j)) : gr A n (j + 1) = some ((287 - j) % 48) := by rw [gr, if_pos h]
theorem gr_f {A : Nat → Nat} {n j : Nat} (h : ¬ vl A n (287 - j)) : gr A n (j + 1) = gr A n j := by rw [gr, if_neg h]
theorem gr_spec (A : Nat → Nat) (n : Nat) : ∀ j, j ≤ 288 → (gr A n j = none ∧ ∀ t, 288 - j ≤ t → t < 288 → ¬ vl A n t) ∨ ∃ t, 288 - j ≤ t ∧ t < 288 ∧ vl A n t ∧ gr A n j = some (t % 48) ∧ ∀ u, 288 - j ≤ u → u < t → ¬ vl A n u
  | 0, _ => Or.inl ⟨rfl, fun t h1 h2 => by omega⟩
  | j + 1, hj => by
    by_cases h : vl A n (287 - j)
    · exact Or.inr ⟨287 - j, by omega, by omega, h, gr_t h, fun u h1 h2 => by omega⟩
    · rw [gr_f h]
      rcases gr_spec A n j (by omega) with ⟨h1, h2⟩ | ⟨t, h1, h2, h3, h4, h5⟩
      · refine Or.inl ⟨h1, fun t a b => ?_⟩
        by_cases e : t = 287 - j
        · rw [e]; exact h
        · exact h2 t (by omega) b
      · refine Or.inr ⟨t, by omega, h2, h3, h4, fun u a b => ?_⟩
        by_cases e : u = 287 - j
        · rw [e]; exact h
        · exact h5 u (by omega) b
theorem gr_skip {A : Nat → Nat} {n i : Nat} : ∀ d, i + d ≤ 288 → (∀ t, 288 - (i + d) ≤ t → t < 288 - i → ¬ vl A n t) → gr A n (i + d) = gr A n i
  | 0, _, _ => rfl
  | d + 1, hd, h => by
    rw [show i + (d + 1) = (i + d) + 1 by omega, gr_f (h _ (by omega) (by omega))]
    exact gr_skip d (by omega) (fun t a b => h t (by omega) b)
theorem csc_min (A : Nat → Nat) (n : Nat) : ∀ m, (∀ c, (csc A n m).1 = some c → ∀ e, e < m → nd n (crd A e) = 0 → pop (crd A c) < pop (crd A e) ∨ (pop (crd A c) = pop (crd A e) ∧ c ≤ e)) ∧ ((csc A n m).1 = none → (csc A n m).2 = 13 ∧ ∀ e, e < m → ¬ nd n (crd A e) = 0)
  | 0 => ⟨fun c h => (by cases h), fun _ => ⟨rfl, fun e h => by omega⟩⟩
  | m + 1 => by
    obtain ⟨ih1, ih2⟩ := csc_min A n m
    have hs := csc_s A n m
    unfold cst at hs
    by_cases q : nd n (crd A m) = 0 ∧ pop (crd A m) < (csc A n m).2
    · rw [if_pos q] at hs
      rw [hs]
      refine ⟨fun c h e he hc => ?_, fun h => by cases h⟩
      cases h
      by_cases e1 : e = m
      · rw [e1]; exact Or.inr ⟨rfl, Nat.le_refl _⟩
      · cases hp : (csc A n m).1 with
        | none => exact absurd hc ((ih2 hp).2 e (by omega))
        | some d =>
          have h1 := ih1 d hp e (by omega) hc
          have h2 := (csc_lt A n m d hp).2.2
          rw [← h2] at q
          refine Or.inl ?_
          omega
    · rw [if_neg q] at hs
      rw [hs]
      refine ⟨fun c h e he hc => ?_, fun h => ⟨(ih2 h).1, fun e he hc => ?_⟩⟩
      · by_cases e1 : e = m
        · rw [e1] at hc ⊢
          have h1 := csc_lt A n m c h
          have : ¬ pop (crd A m) < (csc A n m).2 := fun z => q ⟨hc, z⟩
          rw [← h1.2.2] at this
          have h3 := h1.1
          rcases Nat.lt_or_ge (pop (crd A c)) (pop (crd A m)) with y | y
          · exact Or.inl y
          · exact Or.inr ⟨by omega, by omega⟩
        · exact ih1 c h e (by omega) hc
      · by_cases e1 : e = m
        · rw [e1] at hc
          have := pop_le (crd A m)
          exact q ⟨hc, by rw [(ih2 h).1]; omega⟩
        · exact (ih2 h).2 e (by omega) hc
theorem crd_pop {A : Nat → Nat} (hW : WF A) {c : Nat} (hc : c < 12 * A 1) : pop (crd A c) = pop (A (4 + c / 12)) := rot_pop (hW.2.2.2.1 (c / 12) (by omega)).1 (Nat.mod_lt _ (by decide))
theorem gr_chd {A : Nat → Nat} (hW : WF A) (n : Nat) : gr A n 192 = chd A n := by
  have h1 := (wfc hW).1
  have hv : ∀ c, c < 12 * A 1 → n ≠ 0 → nd n (crd A c) = 0 → 96 ≤ 48 * pop (crd A c) + c ∧ 48 * pop (crd A c) + c < 288 ∧ vl A n (48 * pop (crd A c) + c) := by
    intro c hc h0 hd
    obtain ⟨-, p2, p5⟩ := hW.2.2.2.1 (c / 12) (by omega)
    have e := crd_pop hW hc
    refine ⟨by omega, by omega, ?_⟩
    unfold vl
    rw [show (48 * pop (crd A c) + c) % 48 = c by omega, show (48 * pop (crd A c) + c) / 48 = pop (crd A c) by omega]
    exact ⟨hc, e.symm, h0, hd⟩
  rcases gr_spec A n 192 (by decide) with ⟨g1, g2⟩ | ⟨t, g1, g2, g3, g4, g5⟩
  · rw [g1]
    cases hc : chd A n with
    | none => rfl
    | some c =>
      obtain ⟨a, b, d⟩ := chd_lt hc
      obtain ⟨x1, x2, x3⟩ := hv c a b d
      exact absurd x3 (g2 _ (by omega) x2)
  · rw [g4]
    obtain ⟨v1, v2, v3, v4⟩ := g3
    have ec : chd A n = (csc A n (12 * A 1)).1 := by unfold chd; rw [if_neg v3]
    obtain ⟨m1, m2⟩ := csc_min A n (12 * A 1)
    cases hc : (csc A n (12 * A 1)).1 with
    | none => exact absurd v4 ((m2 hc).2 _ v1)
    | some c =>
      rw [ec, hc]
      obtain ⟨a, d, -⟩ := csc_lt A n _ c hc
      have h4 := m1 c hc _ v1 v4
      obtain ⟨x1, x2, x3⟩ := hv c a v3 d
      have ep := crd_pop hW v1
      rw [v2] at ep
      by_cases z : 48 * pop (crd A c) + c < t
      · exact absurd x3 (g5 _ (by omega) z)
      · congr 1; omega
/-! learning -/
def LI (A : Nat → Nat) (σ0 : kS) (t : Nat) (σ : kS) : Prop := fr [25, 26] σ0 σ ∧ (∀ n, n < 4096 → σ.1 26 n = cI (gr A n (288 - t))) ∧ ∀ c, c < 12 * A 1 → t ≤ 48 * pop (A (4 + c / 12)) + c → σ.1 25 c = nI (crd A c)
theorem LI_skip {A : Nat → Nat} {σ0 σ : kS} {t u : Nat} (hu : u ≤ t) (ht : t ≤ 288) (h : LI A σ0 t σ) (hs : ∀ e, u ≤ e → e < t → e % 48 < 12 * A 1 → ¬ pop (A (4 + e % 48 / 12)) = e / 48) (h48 : ∀ c, c < 12 * A 1 → c < 48) : LI A σ0 u σ := by
  refine ⟨h.1, fun n hn => ?_, fun c hc hr => ?_⟩
  · rw [h.2.1 n hn]
    have := gr_skip (A := A) (n := n) (i := 288 - t) (t - u) (by omega) (fun e a b => fun z => hs e (by omega) (by omega) z.1 z.2.1)
    rw [show 288 - u = 288 - t + (t - u) by omega, this]
  · refine h.2.2 c hc ?_
    rcases Nat.lt_or_ge (48 * pop (A (4 + c / 12)) + c) t with q | q
    · have h4 := h48 c hc
      have := hs (48 * pop (A (4 + c / 12)) + c) hr q
      rw [show (48 * pop (A (4 + c / 12)) + c) % 48 = c by omega, show (48 * pop (A (4 + c / 12)) + c) / 48 = pop (A (4 + c / 12)) by omega] at this
      exact absurd rfl (this hc)
    · exact q
theorem n_rot {s r : Nat} (hs : s < 4096) (hr : r < 12) : ((nI s <<< (nI r &&& 31)) ||| (nI s >>> (((12 : Int32) - nI r) &&& 31))) &&& (4095 : Int32) = nI (rot s r) := by
  have h1 : 2 ^ r ≤ 2 ^ 11 := Nat.pow_le_pow_right (by decide) (by omega)
  have h2 : s * 2 ^ r ≤ 4095 * 2 ^ 11 := Nat.mul_le_mul (by omega) h1
  rw [show (12 : Int32) = nI 12 from rfl, pk_sub (by omega), n_shl (by omega) (by omega), n_shr (by omega) (by omega), n_or, show (4095 : Int32) = nI 4095 from rfl, n_and]
  unfold rot
  have e : 4096 = 2 ^ (12 - r) * 2 ^ r := by rw [← Nat.pow_add, show 12 - r + r = 12 by omega]
  rw [show s * 2 ^ r / 4096 = s / 2 ^ (12 - r) by rw [e]; exact Nat.mul_div_mul_right _ _ (p_pos r)]
theorem x_learnShape {A : Nat → Nat} {σ0 σ : kS} {k s : Nat} (hW : WF A) (hk : k < A 1) (hs : pop (A (4 + k)) = s) (h : LI A σ0 (48 * s + 12 * (k + 1)) σ) : ∃ τ, R_X2_learnShape (nI k) (nI (A (4 + k))) σ τ ∧ LI A σ0 (48 * s + 12 * k) τ := by
  have h1 := (wfc hW).1
  obtain ⟨hl, p2, p5⟩ := hW.2.2.2.1 k hk
  have key : ∀ q, q ≤ 12 → ∀ σ', LI A σ0 (48 * s + 12 * k + q) σ' → ∃ τ, E_X2_learnShape_3 (nI k) (nI (A (4 + k))) (nI q + -1) σ' τ ∧ LI A σ0 (48 * s + 12 * k) τ := by
    intro q
    induction q with
    | zero => intro _ σ' hσ; exact ⟨σ', t_X2_learnShape_3 ⟨fun _ => rfl, fun c => absurd n_m1neg c⟩, hσ⟩
    | succ q ih =>
      intro hq σ' hσ
      have hc : 12 * k + q < 48 := by omega
      have hca : 12 * k + q < 12 * A 1 := by omega
      have ecr : crd A (12 * k + q) = rot (A (4 + k)) q := crd_at (by omega)
      have h25 : (k_si σ' 25 (12 * k + q) (nI (rot (A (4 + k)) q))).1 25 (12 * k + q) = nI (rot (A (4 + k)) q) := k_si_at
      obtain ⟨σ2, c1, c2, c3⟩ := x_claim (c := 12 * k + q) (m := rot (A (4 + k)) q) (σ := k_si σ' 25 (12 * k + q) (nI (rot (A (4 + k)) q))) hc (rot_lt _ _) (by rw [rot_pop hl (by omega)]; exact ⟨p2, p5⟩) h25
      have hL : LI A σ0 (48 * s + 12 * k + q) σ2 := by
        refine ⟨fr_tr hσ.1 (fr_tr (fr_si (by simp)) (fr_mo c2 (by simp))), fun n hn => ?_, fun c hc2 hr => ?_⟩
        · rw [c3 n hn, k_si_o (by decide), hσ.2.1 n hn]
          have e1 : 288 - (48 * s + 12 * k + q) = (288 - (48 * s + 12 * k + (q + 1))) + 1 := by omega
          have e2 : 287 - (288 - (48 * s + 12 * k + (q + 1))) = 48 * s + 12 * k + q := by omega
          have e3 : (48 * s + 12 * k + q) % 48 = 12 * k + q := by omega
          have e4 : (48 * s + 12 * k + q) / 48 = s := by omega
          have hvl : vl A n (287 - (288 - (48 * s + 12 * k + (q + 1)))) ↔ (n &&& rot (A (4 + k)) q = n ∧ 0 < n) := by
            rw [e2]
            unfold vl
            rw [e3, e4, ecr, nd_0 (by omega), sb_and, show (12 * k + q) / 12 = k by omega]
            constructor
            · intro ⟨_, _, a, b⟩; exact ⟨b, by omega⟩
            · intro ⟨a, b⟩; exact ⟨hca, hs, by omega, a⟩
          by_cases z : n &&& rot (A (4 + k)) q = n ∧ 0 < n
          · rw [if_pos z, e1, gr_t (hvl.mpr z), e2, e3]; rfl
          · rw [if_neg z, e1, gr_f (mt hvl.mp z)]
        · rw [(c2 25 (by simp)).1, k_si_s, upd]
          by_cases e : c = 12 * k + q
          · rw [if_pos e, e, ecr]
          · rw [if_neg e]
            refine hσ.2.2 c hc2 ?_
            rcases Nat.lt_or_ge (48 * pop (A (4 + c / 12)) + c) (48 * s + 12 * k + (q + 1)) with y | y
            · omega
            · exact y
      obtain ⟨τ, i1, i2⟩ := ih (by omega) σ2 hL
      rw [n_dec]
      refine ⟨τ, t_X2_learnShape_3 ⟨fun c => absurd c (n_neg (by omega)), fun _ => ?_⟩, i2⟩
      rw [n_rot hl (by omega), show (12 : Int32) = nI 12 from rfl, pk_mul, nI_add, show k * 12 + q = 12 * k + q by omega, n_N (by omega)]
      exact ⟨n_in (by omega) (by decide), _, c1, i1⟩
  obtain ⟨τ, i1, i2⟩ := key 12 (Nat.le_refl _) σ h
  exact ⟨τ, t_X2_learnShape i1, i2⟩
theorem x_learn {A : Nat → Nat} {σ : kS} (hW : WF A) (h : vx 3 σ A) : ∃ τ, R_X2_learn σ τ ∧ fr [25, 26] σ τ ∧ CT τ A := by
  have h1 := (wfc hW).1
  have hsh : ∀ σ', fr [25, 26] σ σ' → vx 3 σ' A := fun σ' q => vx_kp h (fun k a b => (q k (by simp; omega)).1)
  have hinit : LI A σ 288 (k_fi σ 26 4096 (-1)) := by
    refine ⟨fr_fi (by simp), fun n hn => by simp only [k_fi, true_and, if_pos hn]; rfl, fun c hc hr => ?_⟩
    have := (hW.2.2.2.1 (c / 12) (by omega)).2.2
    omega
  have key : ∀ d, d ≤ 4 → ∀ σ', LI A σ (48 * (d + 2)) σ' → ∃ τ, E_X2_learn_10 (nI (d + 2) + -1) σ' τ ∧ fr [25, 26] σ τ ∧ CT τ A := by
    intro d
    induction d with
    | zero =>
      intro _ σ' hσ
      refine ⟨σ', t_X2_learn_10 ⟨fun _ => rfl, fun c => absurd (by decide +kernel) c⟩, hσ.1, fun n hn => ?_, fun c hc => ?_⟩
      · rw [hσ.2.1 n hn, gr_chd hW]
      · refine hσ.2.2 c hc ?_
        have := (hW.2.2.2.1 (c / 12) (by omega)).2.1
        omega
    | succ d ih =>
      intro hd σ' hσ
      rw [show d + 1 + 2 = (d + 2) + 1 by omega] at hσ ⊢
      rw [n_dec]
      have hσ2 : LI A σ (48 * (d + 2) + 12 * A 1) σ' := by
        refine LI_skip (by omega) (by omega) hσ (fun e a b q => ?_) (fun c hc => by omega)
        omega
      have key2 : ∀ k, k ≤ A 1 → ∀ σ', LI A σ (48 * (d + 2) + 12 * k) σ' → ∃ τ, E_X2_learn_22 (nI (d + 2)) (nI k + -1) σ' τ ∧ fr [25, 26] σ τ ∧ CT τ A := by
        intro k
        induction k with
        | zero =>
          intro _ σ' hσ
          obtain ⟨τ, i1, i2⟩ := ih (by omega) σ' hσ
          exact ⟨τ, t_X2_learn_22 ⟨fun _ => i1, fun c => absurd n_m1neg c⟩, i2⟩
        | succ k ih2 =>
          intro hk σ' hσ
          obtain ⟨hl, p2, p5⟩ := hW.2.2.2.1 k (by omega)
          have e4 : σ'.1 4 k = nI (A (4 + k)) := (hsh σ' hσ.1).2.1 k (by omega)
          rw [n_dec]
          by_cases hp : pop (A (4 + k)) = d + 2
          · obtain ⟨σ2, l1, l2⟩ := x_learnShape hW (by omega) hp hσ
            obtain ⟨τ, i1, i2⟩ := ih2 (by omega) σ2 l2
            refine ⟨τ, t_X2_learn_22 ⟨fun c => absurd c (n_neg (by omega)), fun _ => ?_⟩, i2⟩
            rw [n_N (by omega), e4]
            refine ⟨n_in (by omega) (by decide), _, _, x_bits hl, fun c => absurd (by rw [hp]) c, fun _ => ⟨n_in (by omega) (by decide), _, ?_, i1⟩⟩
            rw [e4]
            exact l1
          · have hs2 : LI A σ (48 * (d + 2) + 12 * k) σ' := by
              refine LI_skip (by omega) (by omega) hσ (fun e a b q => ?_) (fun c hc => by omega)
              rw [show e % 48 / 12 = k by omega, show e / 48 = d + 2 by omega]
              exact hp
            obtain ⟨τ, i1, i2⟩ := ih2 (by omega) σ' hs2
            refine ⟨τ, t_X2_learn_22 ⟨fun c => absurd c (n_neg (by omega)), fun _ => ?_⟩, i2⟩
            rw [n_N (by omega), e4]
            refine ⟨n_in (by omega) (by decide), _, _, x_bits hl, fun _ => i1, fun c => absurd ((nI_eq (by omega) (by omega)).mp c) hp⟩
      obtain ⟨τ, i1, i2⟩ := key2 (A 1) (Nat.le_refl _) σ' hσ2
      refine ⟨τ, t_X2_learn_10 ⟨fun c => absurd ((n_lt (b := 2) (by omega) (by decide)).mp c) (by omega), fun _ => ?_⟩, i2⟩
      rw [(hsh σ' hσ.1).1.1]
      have e5 : nI (A 1) - 1 = nI (A 1) + -1 := by rw [Int32.sub_eq_add_neg]
      rw [e5]
      exact i1
  obtain ⟨τ, i1, i2⟩ := key 4 (Nat.le_refl _) (k_fi σ 26 4096 (-1)) hinit
  exact ⟨τ, t_X2_learn ⟨_, x_fill rfl (by decide), i1⟩, i2⟩
