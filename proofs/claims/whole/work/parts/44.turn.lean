/-! every way to stand, one after another -/
def dg (B n t i : Nat) : Nat := t / B ^ (n - 1 - i) % B
def crw (n : Nat) (P : Nat → Nat) (f : Nat) : Nat := orF n (fun i => decide (P i = f))
theorem crw_lt (n : Nat) (P : Nat → Nat) (f : Nat) : crw n P f < 2 ^ n := orF_lt _ _
theorem crw_co {n : Nat} {P Q : Nat → Nat} {f : Nat} (h : ∀ i, i < n → P i = Q i) : crw n P f = crw n Q f := orF_congr n (fun i hi => by rw [h i hi])
theorem crw_up {n k a b f : Nat} {P : Nat → Nat} (hk : k < n) (ha : P k = a) (hab : a ≠ b) : crw n (fun i => if i = k then b else P i) f = if f = a ∨ f = b then crw n P f ^^^ 2 ^ k else crw n P f := by
  apply Nat.eq_of_testBit_eq
  intro i
  have e1 : (crw n (fun i => if i = k then b else P i) f).testBit i = (decide (i < n) && decide ((if i = k then b else P i) = f)) := orF_bit _ _ _
  have e2 : (crw n P f).testBit i = (decide (i < n) && decide (P i = f)) := orF_bit _ _ _
  rw [e1]
  by_cases q : f = a ∨ f = b
  · rw [if_pos q, Nat.testBit_xor, e2, Nat.testBit_two_pow]
    by_cases qi : i = k
    · subst qi
      rw [if_pos rfl, ha]
      rcases q with rfl | rfl
      · simp [hk, hab.symm]
      · simp [hk, hab]
    · rw [if_neg qi]
      simp [show ¬ k = i from fun c => qi c.symm]
  · rw [if_neg q, e2]
    by_cases qi : i = k
    · subst qi
      rw [if_pos rfl, ha]
      simp [show ¬ b = f from fun c => q (Or.inr c.symm), show ¬ a = f from fun c => q (Or.inl c.symm)]
    · rw [if_neg qi]
theorem dg_s0 {M s t : Nat} (hM : 0 < M) (hs : 0 < s) (h : t + 1 = M * s) : t / M = s - 1 := by
  obtain ⟨r, rfl⟩ : ∃ r, s = r + 1 := ⟨s - 1, by omega⟩
  have : t = M * r + (M - 1) := by rw [Nat.mul_add, Nat.mul_one] at h; omega
  rw [this, Nat.mul_add_div hM, Nat.div_eq_of_lt (by omega)]; omega
theorem dg_lo {B M s e : Nat} (hB : 0 < B) (h : M = B ^ (e + 1)) (j : Nat) : (M * B ^ j * s) / B ^ j % B = 0 := by
  rw [show M * B ^ j * s = (M * s) * B ^ j by rw [Nat.mul_right_comm], Nat.mul_div_cancel _ (Nat.pow_pos hB), h, Nat.pow_succ, Nat.mul_right_comm, Nat.mul_mod_left]
theorem dg_hi {B s : Nat} (h0 : ¬ (s + 1) % B = 0) (hB : 0 < B) : (s + 1) / B = s / B := by
  have h1 := Nat.div_add_mod s B
  have h2 := Nat.mod_lt s hB
  have h3 : s % B + 1 < B := by
    by_cases q : s % B + 1 = B
    · exfalso; apply h0
      have : s + 1 = B * (s / B) + B := by omega
      rw [this, Nat.add_mod_right, Nat.mul_mod_right]
    · omega
  have : s + 1 = B * (s / B) + (s % B + 1) := by omega
  rw [this, Nat.mul_add_div hB, Nat.div_eq_of_lt h3, Nat.add_zero]
/-- behind m lowest digits that are all full -/
theorem dg_stop {B n t k : Nat} (hB : 1 < B) (hk : k < n) (hz : (t + 1) % B ^ (n - 1 - k) = 0) (hd : dg B n t k + 1 < B) : ∀ i, i < n → dg B n (t + 1) i = if i < k then dg B n t i else if i = k then dg B n t k + 1 else 0 := by
  intro i hi
  obtain ⟨s, hs⟩ := Nat.dvd_of_mod_eq_zero hz
  have hM : 0 < B ^ (n - 1 - k) := Nat.pow_pos (by omega)
  have hs0 : 0 < s := by
    rcases Nat.eq_zero_or_pos s with h | h
    · rw [h, Nat.mul_zero] at hs; omega
    · exact h
  have ht := dg_s0 hM hs0 hs
  obtain ⟨r, rfl⟩ : ∃ r, s = r + 1 := ⟨s - 1, by omega⟩
  rw [show r + 1 - 1 = r by omega] at ht
  have hdk : dg B n t k = r % B := by unfold dg; rw [ht]
  rw [hdk] at hd ⊢
  have hr1 : (r + 1) % B = r % B + 1 := by rw [Nat.add_mod, Nat.mod_eq_of_lt (show 1 < B by omega), Nat.mod_eq_of_lt hd]
  by_cases q : i < k
  · rw [if_pos q]
    obtain ⟨e, he⟩ : ∃ e, n - 1 - i = (n - 1 - k) + (e + 1) := ⟨n - 1 - i - (n - 1 - k) - 1, by omega⟩
    unfold dg
    rw [he, Nat.pow_add, ← Nat.div_div_eq_div_mul, ← Nat.div_div_eq_div_mul, ht, hs, Nat.mul_div_cancel_left _ hM, Nat.pow_succ, Nat.mul_comm (B ^ e), ← Nat.div_div_eq_div_mul, ← Nat.div_div_eq_div_mul, dg_hi (by omega) (by omega)]
  · rw [if_neg q]
    by_cases q2 : i = k
    · rw [if_pos q2, q2]
      unfold dg
      rw [hs, Nat.mul_div_cancel_left _ hM, hr1]
    · rw [if_neg q2]
      obtain ⟨e, he⟩ : ∃ e, n - 1 - k = (e + 1) + (n - 1 - i) := ⟨n - 1 - k - (n - 1 - i) - 1, by omega⟩
      unfold dg
      rw [hs, he, Nat.pow_add]
      exact dg_lo (by omega) rfl _
theorem dg_go {B n t k : Nat} (hB : 1 < B) (hk : k < n) (hz : (t + 1) % B ^ (n - 1 - k) = 0) (hd : dg B n t k + 1 = B) : (t + 1) % B ^ (n - k) = 0 := by
  obtain ⟨s, hs⟩ := Nat.dvd_of_mod_eq_zero hz
  have hM : 0 < B ^ (n - 1 - k) := Nat.pow_pos (by omega)
  have hs0 : 0 < s := by
    rcases Nat.eq_zero_or_pos s with h | h
    · rw [h, Nat.mul_zero] at hs; omega
    · exact h
  have ht := dg_s0 hM hs0 hs
  unfold dg at hd
  rw [ht] at hd
  have h1 := Nat.div_add_mod (s - 1) B
  have : s = B * ((s - 1) / B + 1) := by rw [Nat.mul_add]; omega
  rw [hs, show n - k = (n - 1 - k) + 1 by omega, Nat.pow_succ, this, ← Nat.mul_assoc, Nat.mul_mod_right]
theorem dg_end {B n t : Nat} (hB : 1 < B) (hz : (t + 1) % B ^ n = 0) : ∀ i, i < n → dg B n (t + 1) i = 0 := by
  intro i hi
  obtain ⟨s, hs⟩ := Nat.dvd_of_mod_eq_zero hz
  unfold dg
  obtain ⟨e, he⟩ : ∃ e, n = (e + 1) + (n - 1 - i) := ⟨i, by omega⟩
  rw [hs]
  have : B ^ n = B ^ (e + 1) * B ^ (n - 1 - i) := by rw [← Nat.pow_add, ← he]
  rw [this]
  exact dg_lo (by omega) rfl _
def ODs (nF n : Nat) (P : Nat → Nat) (σ : kS) : Prop := (∀ i, i < n → σ.1 31 i = nI (P i)) ∧ ∀ f, f ≤ nF → σ.1 32 f = nI (crw n P f)
theorem ODs_co {nF n : Nat} {P Q : Nat → Nat} {σ : kS} (h : ODs nF n P σ) (hq : ∀ i, i < n → P i = Q i) : ODs nF n Q σ :=
  ⟨fun i hi => by rw [← hq i hi]; exact h.1 i hi, fun f hf => by rw [← crw_co hq]; exact h.2 f hf⟩
theorem ODs_up {nF n k a b : Nat} {P : Nat → Nat} {σ : kS} (h : ODs nF n P σ) (hn : n ≤ 5) (hk : k < n) (ha : P k = a) (hab : a ≠ b) (ha2 : a ≤ nF) (hb2 : b ≤ nF) :
    ODs nF n (fun i => if i = k then b else P i) (k_si (k_si (k_si σ 32 a (nI (crw n P a ^^^ 2 ^ k))) 31 k (nI b)) 32 b (nI (crw n P b ^^^ 2 ^ k))) := by
  refine ⟨fun i hi => ?_, fun f hf => ?_⟩
  · rw [k_si_o (by decide), s_i, if_pos rfl, k_si_o (by decide)]
    by_cases q : i = k
    · rw [if_pos q]; simp [q]
    · rw [if_neg q]; simp only [q, if_false]; exact h.1 i hi
  · rw [crw_up hk ha hab, s_i, if_pos rfl]
    by_cases q : f = b
    · rw [if_pos q, if_pos (Or.inr q), q]
    · rw [if_neg q, k_si_o (by decide), s_i, if_pos rfl]
      by_cases q2 : f = a
      · rw [if_pos q2, if_pos (Or.inl q2), q2]
      · rw [if_neg q2, if_neg (by omega)]; exact h.2 f hf
theorem x_turnAll {nF n t : Nat} {σ : kS} (hF : 1 ≤ nF) (hF5 : nF ≤ 5) (hn : n ≤ 5) (h5 : σ.1 29 5 = nI nF) (h : ODs nF n (dg (nF + 1) n t) σ) : ∃ τ, R_X5_turn (nI n) σ τ ∧ fr [31, 32] σ τ ∧ ODs nF n (dg (nF + 1) n (t + 1)) τ := by
  have hdl : ∀ i, dg (nF + 1) n t i ≤ nF := fun i => by have := Nat.mod_lt (t / (nF + 1) ^ (n - 1 - i)) (show 0 < nF + 1 by omega); unfold dg; omega
  have key : ∀ k, k ≤ n → ∀ σ' : kS, fr [31, 32] σ σ' → ODs nF n (fun i => if i < k then dg (nF + 1) n t i else 0) σ' → (t + 1) % (nF + 1) ^ (n - k) = 0 → ∃ τ, E_X5_turn_4 (nI k - 1) σ' τ ∧ fr [31, 32] σ τ ∧ ODs nF n (dg (nF + 1) n (t + 1)) τ := by
    intro k
    induction k with
    | zero =>
      intro _ σ' f o hz
      refine ⟨σ', t_X5_turn_4 ⟨fun _ => rfl, fun z => absurd (by decide) z⟩, f, ODs_co o (fun i hi => ?_)⟩
      rw [Nat.sub_zero] at hz
      rw [if_neg (by omega), dg_end (by omega) hz i hi]
    | succ k ih =>
      intro hk σ' f o hz
      rw [show n - (k + 1) = n - 1 - k by omega] at hz
      have ei : nI (k + 1) - 1 = nI k := nI_pred k
      have hin : vp_in (nI k) 5 := n_in (by omega) (by decide)
      have hd := hdl k
      have v1 : σ'.1 31 k = nI (dg (nF + 1) n t k) := by have := o.1 k (by omega); simpa using this
      have e5 : σ'.1 29 5 = nI nF := by rw [(f 29 (by decide)).1]; exact h5
      have w1 := fun g hg => o.2 g hg
      have cl : ∀ g, crw n (fun i => if i < k + 1 then dg (nF + 1) n t i else 0) g < 32 := fun g => by
        have := crw_lt n (fun i => if i < k + 1 then dg (nF + 1) n t i else 0) g
        have h2 : 2 ^ n ≤ 2 ^ 5 := Nat.pow_le_pow_right (by decide) hn
        omega
      -- one place goes from d to b
      have step : ∀ b, b ≤ nF → dg (nF + 1) n t k ≠ b → ∀ τ, ((nI b = 0 → E_X5_turn_4 (nI k + -1) (k_si (k_si (k_si σ' 32 (dg (nF + 1) n t k) (nI (crw n (fun i => if i < k + 1 then dg (nF + 1) n t i else 0) (dg (nF + 1) n t k) ^^^ 2 ^ k))) 31 k (nI b)) 32 b (nI (crw n (fun i => if i < k + 1 then dg (nF + 1) n t i else 0) b ^^^ 2 ^ k))) τ) ∧ (¬ nI b = 0 → τ = k_si (k_si (k_si σ' 32 (dg (nF + 1) n t k) (nI (crw n (fun i => if i < k + 1 then dg (nF + 1) n t i else 0) (dg (nF + 1) n t k) ^^^ 2 ^ k))) 31 k (nI b)) 32 b (nI (crw n (fun i => if i < k + 1 then dg (nF + 1) n t i else 0) b ^^^ 2 ^ k)))) → E_X5_turn_55 (nI k) (nI b) (nI k) (k_si σ' 32 (dg (nF + 1) n t k) (nI (crw n (fun i => if i < k + 1 then dg (nF + 1) n t i else 0) (dg (nF + 1) n t k) ^^^ 2 ^ k))) τ := by
        intro b hb hne τ hz
        refine t_X5_turn_55 ?_
        have hb6 : vp_in (nI b) 6 := n_in (by omega) (by decide)
        rw [n_N (by omega), k_si_at, n_N (by omega), n_one k (by omega)]
        have vb : (k_si σ' 32 (dg (nF + 1) n t k) (nI (crw n (fun i => if i < k + 1 then dg (nF + 1) n t i else 0) (dg (nF + 1) n t k) ^^^ 2 ^ k))).1 32 b = nI (crw n (fun i => if i < k + 1 then dg (nF + 1) n t i else 0) b) := by
          rw [s_i, if_pos rfl, if_neg (fun c => hne c.symm)]; exact w1 b hb
        rw [vb, n_xor]
        exact ⟨hin, hin, hb6, hb6, hin, hz⟩
      have hx1 : σ'.1 32 (dg (nF + 1) n t k) ^^^ ((1 : Int32) <<< (nI k &&& 31)) = nI (crw n (fun i => if i < k + 1 then dg (nF + 1) n t i else 0) (dg (nF + 1) n t k) ^^^ 2 ^ k) := by rw [w1 _ hd, n_one k (by omega), n_xor]
      have hPk : (fun i => if i < k + 1 then dg (nF + 1) n t i else 0) k = dg (nF + 1) n t k := if_pos (by omega)
      have hf2 : ∀ b, fr [31, 32] σ (k_si (k_si (k_si σ' 32 (dg (nF + 1) n t k) (nI (crw n (fun i => if i < k + 1 then dg (nF + 1) n t i else 0) (dg (nF + 1) n t k) ^^^ 2 ^ k))) 31 k (nI b)) 32 b (nI (crw n (fun i => if i < k + 1 then dg (nF + 1) n t i else 0) b ^^^ 2 ^ k))) := fun b => fr_tr f (fr_tr (fr_tr (fr_si (by decide)) (fr_si (by decide))) (fr_si (by decide)))
      have hin6 : vp_in (nI (dg (nF + 1) n t k)) 6 := n_in (by omega) (by decide)
      have eq5 : (nI (dg (nF + 1) n t k) = nI nF ↔ dg (nF + 1) n t k = nF) := nI_eq (by omega) (by omega)
      by_cases q : dg (nF + 1) n t k = nF
      · have hne : dg (nF + 1) n t k ≠ 0 := by omega
        have o2 := ODs_up (b := 0) o hn (show k < n by omega) hPk hne hd (by omega)
        have o3 := ODs_co o2 (Q := fun i => if i < k then dg (nF + 1) n t i else 0) (fun i hi => by
          by_cases z : i = k
          · rw [if_pos z, if_neg (by omega)]
          · rw [if_neg z]
            by_cases z2 : i < k
            · rw [if_pos z2, if_pos (by omega)]
            · rw [if_neg z2, if_neg (by omega)])
        obtain ⟨τ, j1, j2, j3⟩ := ih (by omega) _ (hf2 0) o3 (dg_go (by omega) (by omega) hz (by omega))
        refine ⟨τ, ?_, j2, j3⟩
        rw [ei]
        refine t_X5_turn_4 ⟨fun z => absurd z (n_neg (by omega)), fun _ => ?_⟩
        rw [n_N (by omega), v1, n_N (by omega), hx1, e5]
        refine ⟨hin, hin6, hin6, hin, fun z => absurd (eq5.mpr q) z, fun _ => step 0 (by omega) hne τ ⟨fun _ => ?_, fun z => absurd rfl z⟩⟩
        rw [show nI k + -1 = nI k - 1 by rw [Int32.sub_eq_add_neg]]; exact j1
      · have hne : dg (nF + 1) n t k ≠ dg (nF + 1) n t k + 1 := by omega
        have o2 := ODs_up (b := dg (nF + 1) n t k + 1) o hn (show k < n by omega) hPk hne hd (by omega)
        have o3 := ODs_co o2 (Q := dg (nF + 1) n (t + 1)) (fun i hi => by
          rw [dg_stop (by omega) (show k < n by omega) hz (by omega) i hi]
          by_cases z : i = k
          · rw [if_pos z, if_neg (by omega), if_pos z]
          · rw [if_neg z]
            by_cases z2 : i < k
            · rw [if_pos z2, if_pos (by omega)]
            · rw [if_neg z2, if_neg z, if_neg (by omega)])
        refine ⟨_, ?_, hf2 _, o3⟩
        rw [ei]
        refine t_X5_turn_4 ⟨fun z => absurd z (n_neg (by omega)), fun _ => ?_⟩
        rw [n_N (by omega), v1, n_N (by omega), hx1, e5, n_inc]
        exact ⟨hin, hin6, hin6, hin, fun _ => ⟨hin, step _ (by omega) hne _ ⟨fun z => absurd z (nI_ne0 (by omega) (by omega)), fun _ => rfl⟩⟩, fun z => absurd (eq5.mp z) q⟩
  obtain ⟨τ, j1, j2, j3⟩ := key n (Nat.le_refl _) σ fr_rf (ODs_co h (fun i hi => by rw [if_pos hi])) (by rw [Nat.sub_self, Nat.pow_zero, Nat.mod_one])
  exact ⟨τ, t_X5_turn j1, j2, j3⟩
