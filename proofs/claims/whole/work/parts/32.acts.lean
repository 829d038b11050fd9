/-! acts are kept and taken back -/
theorem cpA (σ : kS) (a b s d n c i : Nat) : (k_cp σ a b s d n).1 c i = if c = b then (if d ≤ i ∧ i < d + n then σ.1 a (s + (i - d)) else σ.1 b i) else σ.1 c i := by
  simp only [k_cp, va_cpy]
theorem n_r24 {a : Nat} (h : a < 2 ^ 31) : nI a - nI a / 24 * 24 = nI (a % 24) := pk_rem (d := 24) h (by decide) (by decide)
def dd (a : Nat) : Nat := if a = 24 then 1 else 0
theorem mn24 : ∀ a, a < 25 → mn 24 (nI a + 1) = nI (a + 1 - dd a) := by decide +kernel
theorem m_note {μ : kS} {a : Nat} (ha : a ≤ 24) (h : μ.1 0 12 = nI a) : ∃ m, R_X9_note μ m ∧ fr [0, 10] μ m ∧ m.1 0 3 = μ.1 0 3 ∧ m.1 0 12 = nI (a + 1 - dd a) ∧ ∀ j i, j < a + 1 - dd a → i < 38 → m.1 10 (38 * j + i) = if j = a - dd a then μ.1 5 i else μ.1 10 (38 * (j + dd a) + i) := by
  by_cases q : a = 24
  · subst q
    have b1 := m_bring (r0 := 10) (n0 := 912) (r2 := 10) (n2 := 912) (i := 38) (j := 0) (n := 874) (σ := μ) rfl rfl (by decide) (by decide) (by decide) (by decide) (Or.inr (by decide))
    have b2 := m_bring (r0 := 5) (n0 := 38) (r2 := 10) (n2 := 912) (i := 0) (j := 38 * 23) (n := 38) (σ := k_si (k_cp μ 10 10 38 0 874) 0 12 (nI 23)) rfl rfl (by decide) (by decide) (by decide) (by decide) (Or.inl (by decide))
    refine ⟨k_si (k_cp (k_si (k_cp μ 10 10 38 0 874) 0 12 (nI 23)) 5 10 0 (38 * 23) 38) 0 12 (nI 24), t_X9_note ⟨fun c => absurd h c, fun _ => ⟨_, b1, t_X9_note_36 ?_⟩⟩, ?_, ?_, ?_, fun j i hj hi => ?_⟩
    · rw [k_cp_o (by decide), h, show nI 24 - 1 = nI 23 from rfl, k_si_at]
      exact ⟨_, b2, by rw [k_cp_o (by decide), k_si_at]; rfl⟩
    · exact fr_tr (fr_tr (fr_tr (fr_cp (by simp)) (fr_si (by simp))) (fr_cp (by simp))) (fr_si (by simp))
    · simp [s_i, cpA]
    · rw [k_si_at]; rfl
    · unfold dd at hj ⊢
      rw [if_pos rfl] at hj ⊢
      rw [k_si_o (by decide), cpA, if_pos rfl]
      by_cases e : j = 23
      · rw [if_pos (by omega), if_pos e, k_si_o (by decide), k_cp_o (by decide), e]
        exact congrArg _ (by omega)
      · rw [if_neg (by omega), if_neg e, k_si_o (by decide), cpA, if_pos rfl, if_pos (by omega)]
        exact congrArg _ (by omega)
  · have b2 := m_bring (r0 := 5) (n0 := 38) (r2 := 10) (n2 := 912) (i := 0) (j := 38 * a) (n := 38) (σ := μ) rfl rfl (by decide) (by omega) (by decide) (by decide) (Or.inl (by decide))
    refine ⟨k_si (k_cp μ 5 10 0 (38 * a) 38) 0 12 (nI (a + 1)), t_X9_note ⟨fun _ => t_X9_note_36 ?_, fun c => absurd ((nI_eq (b := 24) (by omega) (by decide)).mp (h.symm.trans c)) q⟩, ?_, ?_, ?_, fun j i hj hi => ?_⟩
    · rw [h, show (38 : Int32) = nI 38 from rfl, pk_mul]
      exact ⟨_, b2, by rw [k_cp_o (by decide), h, n_inc]⟩
    · exact fr_tr (fr_cp (by simp)) (fr_si (by simp))
    · simp [s_i, cpA]
    · unfold dd; rw [if_neg q, k_si_at]; rfl
    · unfold dd at hj ⊢
      rw [if_neg q] at hj ⊢
      rw [k_si_o (by decide), cpA, if_pos rfl]
      by_cases e : j = a
      · rw [if_pos (by omega), if_pos (by omega), e]
        exact congrArg _ (by omega)
      · rw [if_neg (by omega), if_neg (by omega)]; exact congrArg _ (by omega)
theorem k_push {A B : Nat → Nat} {a1 a2 a3 : Int32} {σ μ : kS} (i1 : I1 A σ μ) (h4 : I4 A σ μ) (hu : UN a1 a2 a3 B A) (hB : 0 < B 1) : ∃ s m, R_X0_keep a1 a2 a3 σ s ∧ R_X9_note μ m ∧ fr [20, 21, 22, 23] σ s ∧ fr [0, 10] μ m ∧ m.1 0 3 = μ.1 0 3 ∧ I4 B s m := by
  obtain ⟨a, x, S, ha, hx, e1, e2, e3, hS, -, hj⟩ := h4
  obtain ⟨m, m1, m2, m3, m4, m5⟩ := m_note ha e3
  refine ⟨k_si (k_si (k_si (k_si (k_si σ 21 x a1) 22 x a2) 23 x a3) 20 1 (nI ((x + 1) % 24))) 20 0 (nI (a + 1 - dd a)), m, t_X0_keep ?_, m1, ?_, m2, m3, a + 1 - dd a, (x + 1) % 24, fun j => if j < a + 1 - dd a then S (j + dd a) else B, ?_, Nat.mod_lt _ (by decide), ?_, ?_, m4, ?_, fun _ => hB, fun j hj2 => ?_⟩
  · rw [e1, e2, n_N (by omega), n_inc, n_r24 (by omega)]
    have hin : vp_in (nI x) 24 := n_in hx (by decide)
    exact ⟨hin, hin, hin, by rw [mn24 a (by omega)]⟩
  · exact fr_tr (fr_tr (fr_tr (fr_tr (fr_si (by simp)) (fr_si (by simp))) (fr_si (by simp))) (fr_si (by simp))) (fr_si (by simp))
  · unfold dd; split <;> omega
  · rw [k_si_at]
  · simp [s_i]
  · dsimp only; rw [if_neg (by omega)]
  · have hd : dd a = 0 ∧ a < 24 ∨ dd a = 1 ∧ a = 24 := by unfold dd; by_cases q : a = 24 <;> simp [q]; omega
    dsimp only
    rw [if_pos hj2]
    have hl : ∀ c, c = 21 ∨ c = 22 ∨ c = 23 → ∀ p, (k_si (k_si (k_si (k_si (k_si σ 21 x a1) 22 x a2) 23 x a3) 20 1 (nI ((x + 1) % 24))) 20 0 (nI (a + 1 - dd a))).1 c p = if p = x then (if c = 21 then a1 else if c = 22 then a2 else a3) else σ.1 c p := by
      intro c hc p
      rcases hc with rfl | rfl | rfl <;> simp [s_i]
    rw [hl 21 (by omega), hl 22 (by omega), hl 23 (by omega)]
    by_cases ej : j = a - dd a
    · have hja : j + dd a = a := by omega
      rw [if_neg (show ¬ j + 1 < a + 1 - dd a by omega), hja, hS]
      refine ⟨⟨i1.1, i1.2.1⟩, fun i hi => ?_, ?_⟩
      · rw [m5 j i hj2 hi, if_pos ej]; exact i1.2.2.2.1 i hi
      · have hp : ((x + 1) % 24 + 24 - (a + 1 - dd a) + j) % 24 = x := by omega
        rw [hp, if_pos rfl, if_pos rfl, if_pos rfl, if_pos rfl, if_neg (by decide), if_pos rfl, if_neg (by decide), if_neg (by decide)]
        exact hu
    · have hp : ((x + 1) % 24 + 24 - (a + 1 - dd a) + j) % 24 = (x + 24 - a + (j + dd a)) % 24 := by omega
      have hp2 : (x + 24 - a + (j + dd a)) % 24 ≠ x := by omega
      obtain ⟨w1, w2, w3⟩ := hj (j + dd a) (by omega)
      rw [if_pos (show j + 1 < a + 1 - dd a by omega), hp, if_neg hp2, if_neg hp2, if_neg hp2]
      refine ⟨w1, fun i hi => ?_, ?_⟩
      · rw [m5 j i hj2 hi, if_neg ej]; exact w2 i hi
      · rw [show j + 1 + dd a = j + dd a + 1 by omega]; exact w3
/-! how tired they are, in one number -/
def pk5 (A : Nat → Nat) (n : Nat) : Nat := sumF n (fun i => A (28 + i) * 16 ^ i)
theorem pk5_lt {A : Nat → Nat} : ∀ n, (∀ i, i < n → A (28 + i) < 16) → pk5 A n < 16 ^ n
  | 0, _ => by show (0 : Nat) < 16 ^ 0; decide
  | n + 1, h => by
    have := pk5_lt n (fun i hi => h i (by omega))
    have h2 := h n (by omega)
    have h3 : A (28 + n) * 16 ^ n ≤ 15 * 16 ^ n := Nat.mul_le_mul_right _ (by omega)
    show pk5 A n + A (28 + n) * 16 ^ n < 16 ^ (n + 1)
    rw [Nat.pow_succ]; omega
theorem pk5_dig {A : Nat → Nat} : ∀ n k, k < n → (∀ i, i < n → A (28 + i) < 16) → pk5 A n / 16 ^ k % 16 = A (28 + k)
  | 0, k, hk, _ => absurd hk (by omega)
  | n + 1, k, hk, h => by
    have hs : pk5 A (n + 1) = pk5 A n + A (28 + n) * 16 ^ n := rfl
    by_cases q : k = n
    · subst q
      have := pk5_lt k (fun i hi => h i (by omega))
      have h2 := h k (by omega)
      rw [hs, Nat.add_mul_div_right _ _ (Nat.pow_pos (by decide)), Nat.div_eq_of_lt this, Nat.zero_add, Nat.mod_eq_of_lt h2]
    · have ih := pk5_dig n k (by omega) (fun i hi => h i (by omega))
      have e : A (28 + n) * 16 ^ n = (A (28 + n) * 16 ^ (n - k - 1) * 16) * 16 ^ k := by
        rw [Nat.mul_assoc, Nat.mul_assoc]
        congr 1
        rw [Nat.mul_comm 16, ← Nat.pow_succ, ← Nat.pow_add]
        congr 1; omega
      rw [hs, e, Nat.add_mul_div_right _ _ (Nat.pow_pos (by decide)), Nat.add_mul_mod_self_right, ih]
theorem p16 (i : Nat) : 16 ^ i = 2 ^ (4 * i) := by rw [Nat.pow_mul]
theorem x_pack {v : Nat} {σ : kS} {A : Nat → Nat} (hv : k_vly v = true) (h : vx v σ A) (hW : WF A) : R_X7_packTired v σ (nI (pk5 A (A 3))) σ := by
  have hc := wfc hW
  have ht : ∀ i, i < A 3 → A (28 + i) < 16 := fun i hi => by have := (hW.2.2.2.2.2 i hi).2.2.1; omega
  have key : ∀ i, i ≤ A 3 → E_X7_packTired_4 v (nI (pk5 A i)) (nI i) σ (nI (pk5 A (A 3))) σ := by
    refine loop_up (A 3) ?_ (fun i hi ih => ?_)
    · exact t_X7_packTired_4 hv ⟨fun _ => ⟨rfl, rfl⟩, fun c => absurd (by rw [h.1.2.2.1]; exact Int32.le_refl _) c⟩
    · refine t_X7_packTired_4 hv ⟨fun c => ?_, fun _ => ⟨n_in (by omega) (by decide), ?_⟩⟩
      · rw [h.1.2.2.1, n_le (by omega) (by omega)] at c; omega
      · have hl := pk5_lt i (fun j hj => ht j (by omega))
        have h1 := ht i hi
        have h16 : 16 ^ i ≤ 16 ^ 4 := Nat.pow_le_pow_right (by decide) (by omega)
        have hm : A (28 + i) * 16 ^ i ≤ 15 * 16 ^ i := Nat.mul_le_mul_right _ (by omega)
        rw [n_N (by omega), (h.2.2.2 i hi).2.2.2.1, n_inc, show (4 : Int32) = nI 4 from rfl, pk_mul, n_shl (by omega) (by rw [← p16]; omega), n_or, Nat.or_comm, Nat.mul_comm (A (28 + i)), ← Nat.two_pow_add_eq_or_of_lt (by rw [← p16]; exact hl), ← p16]
        rw [show 16 ^ i * A (28 + i) + pk5 A i = pk5 A (i + 1) by show _ = pk5 A i + A (28 + i) * 16 ^ i; rw [Nat.mul_comm, Nat.add_comm]]
        exact ih
  exact t_X7_packTired hv (key 0 (Nat.zero_le _))
theorem x_unpack {v : Nat} {σ : kS} {A : Nat → Nat} (hv : k_vly v = true) (h2 : σ.1 v 2 = nI (A 3)) (hW : WF A) : ∃ τ, R_X7_unpackTired v (nI (pk5 A (A 3))) σ τ ∧ (∀ i, i < A 3 → τ.1 (v + 7) i = nI (A (28 + i))) ∧ fr [v + 7] σ τ := by
  have hc := wfc hW
  have ht : ∀ i, i < A 3 → A (28 + i) < 16 := fun i hi => by have := (hW.2.2.2.2.2 i hi).2.2.1; omega
  have hp := pk5_lt (A 3) ht
  have hp2 : 16 ^ A 3 ≤ 16 ^ 5 := Nat.pow_le_pow_right (by decide) (by omega)
  have key : ∀ i, i ≤ A 3 → ∀ σ', fr [v + 7] σ σ' → (∀ j, j < i → σ'.1 (v + 7) j = nI (A (28 + j))) → ∃ τ, E_X7_unpackTired_2 v (nI (pk5 A (A 3))) (nI i) σ' τ ∧ (∀ i, i < A 3 → τ.1 (v + 7) i = nI (A (28 + i))) ∧ fr [v + 7] σ τ := by
    refine loop_up (A 3) (fun σ' g k => ?_) (fun i hi ih σ' g k => ?_)
    · refine ⟨σ', t_X7_unpackTired_2 hv ⟨fun _ => rfl, fun c => absurd ?_ c⟩, k, g⟩
      rw [(g v (by simp)).1, h2]; exact Int32.le_refl _
    · have hd : (nI (pk5 A (A 3)) >>> (((4 : Int32) * nI i) &&& 31)) &&& (15 : Int32) = nI (A (28 + i)) := by
        rw [show (4 : Int32) = nI 4 from rfl, pk_mul, n_shr (by omega) (by omega), show (15 : Int32) = nI 15 from rfl, n_and, ← p16, Nat.and_two_pow_sub_one_eq_mod _ 4, pk5_dig (A 3) i hi ht]
      obtain ⟨τ, j1, j2, j3⟩ := ih (k_si σ' (v + 7) i (nI (A (28 + i)))) (fr_tr g (fr_si (by simp))) (fun j hj => by
        rw [k_si_s, upd]
        by_cases q : j = i
        · rw [if_pos q, q]
        · rw [if_neg q]; exact k j (by omega))
      refine ⟨τ, t_X7_unpackTired_2 hv ⟨fun c => ?_, fun _ => ⟨n_in (by omega) (by decide), ?_⟩⟩, j2, j3⟩
      · rw [(g v (by simp)).1, h2, n_le (by omega) (by omega)] at c; omega
      · rw [hd, n_N (by omega), n_inc]; exact j1
  obtain ⟨τ, j1, j2, j3⟩ := key 0 (Nat.zero_le _) σ fr_rf (fun j hj => absurd hj (by omega))
  exact ⟨τ, t_X7_unpackTired hv j1, j2, j3⟩
