/-! who sings what: the class's and the reference's choice -/
theorem bits0 {m : Nat} (hm : m < 4096) (h : ∀ v, v < 12 → m.testBit v = false) : m = 0 := by
  apply Nat.eq_of_testBit_eq
  intro k
  rw [Nat.zero_testBit]
  rcases Nat.lt_or_ge k 12 with q | q
  · exact h k q
  · exact Nat.testBit_lt_two_pow (Nat.lt_of_lt_of_le hm (show 2 ^ 12 ≤ 2 ^ k from Nat.pow_le_pow_right (by decide) q))
theorem x_greatest {m : Nat} {σ : kS} (hm : m < 4096) : R_X1_greatest (nI m) σ (nI (hiN m)) σ := by
  refine t_X1_greatest ?_
  have key : ∀ k, k ≤ 12 → E_X1_greatest_3 (nI m) (nI k + -1) σ (nI (hiG k m)) σ := by
    intro k
    induction k with
    | zero => intro _; exact t_X1_greatest_3 ⟨fun _ => ⟨rfl, rfl⟩, fun c => absurd n_m1neg c⟩
    | succ k ih =>
      intro hk
      rw [n_dec]
      refine t_X1_greatest_3 ⟨fun c => absurd c (n_neg (by omega)), fun _ => ?_⟩
      rw [n_hs (by omega) (by omega), hiG]
      refine ⟨fun c => ?_, fun c => ?_⟩
      · rw [if_neg c]; exact ih (by omega)
      · rw [if_pos c]; exact ⟨rfl, rfl⟩
  exact key 12 (Nat.le_refl _)
theorem m_highest {m : Nat} {σ : kS} (hm : m < 4096) (h0 : m ≠ 0) : R_X9_highest (nI m) σ (nI (hiN m)) σ := by
  refine t_X9_highest ?_
  have key : ∀ k, k ≤ 12 → (∀ v, v < 12 → k ≤ v → m.testBit v = false) → E_X9_highest_3 (nI m) (nI k + -1) σ (nI (hiG k m)) σ := by
    intro k
    induction k with
    | zero => intro _ h; exact absurd (bits0 hm (fun v hv => h v hv (Nat.zero_le _))) h0
    | succ k ih =>
      intro hk h
      rw [n_dec]
      refine t_X9_highest_3 ?_
      rw [n_hs (by omega) (by omega), hiG]
      refine ⟨fun c => ?_, fun c => ?_⟩
      · rw [if_pos c]; exact ⟨rfl, rfl⟩
      · rw [if_neg c]
        refine ih (by omega) (fun v h1 h2 => ?_)
        rcases Nat.lt_or_ge k v with q | q
        · exact h v h1 q
        · have : v = k := by omega
          subst this; simpa using c
  exact key 12 (Nat.le_refl _) (fun v h1 h2 => by omega)
theorem m_lowest {m : Nat} {σ : kS} (hm : m < 4096) (h0 : m ≠ 0) : R_X9_lowest (nI m) σ (nI (lwN m)) σ := by
  refine t_X9_lowest ?_
  have key : ∀ k, k ≤ 12 → (∀ v, v < k → m.testBit v = false) → E_X9_lowest_2 (nI m) (nI k) σ (nI (lwN m)) σ := by
    refine loop_up 12 (fun h => absurd (bits0 hm h) h0) (fun k hk ih h => ?_)
    refine t_X9_lowest_2 ?_
    rw [n_hs (by omega) (by omega), n_inc]
    refine ⟨fun c => ⟨by rw [(lwN_go k (by omega) h).1 ⟨hk, c⟩], rfl⟩, fun c => ih (fun v hv => ?_)⟩
    rcases Nat.lt_or_ge v k with q | q
    · exact h v q
    · have : v = k := by omega
      subst this; simpa using c
  exact key 0 (Nat.zero_le _) (fun v hv => by omega)
theorem x_first {m a b : Nat} {z : Int32} {σ : kS} (hm : m < 4096) (ha : a < 31) (hb : b < 31) : R_X1_firstOf (nI m) (nI a) (nI b) z σ (if m.testBit a then nI a else if m.testBit b then nI b else z) σ := by
  refine t_X1_firstOf ?_
  rw [n_hs (by omega) ha, n_hs (by omega) hb]
  refine ⟨fun c => ⟨fun c2 => ⟨?_, rfl⟩, fun c2 => ⟨?_, rfl⟩⟩, fun c => ⟨?_, rfl⟩⟩
  · rw [if_neg c, if_neg c2]
  · rw [if_neg c, if_pos c2]
  · rw [if_pos c]
theorem ch_0 (k r : Nat) : chN k r 0 = 12 := rfl
theorem ch_1 {r m : Nat} (h : m ≠ 0) : chN 1 r m = lwN m := by simp [chN, h]
theorem ch_2 {r m : Nat} (h : m ≠ 0) : chN 2 r m = hiN m := by simp [chN, h]
theorem ch_3 {r m : Nat} (h : m ≠ 0) : chN 3 r m = if m.testBit ((r + 3) % 12) then (r + 3) % 12 else if m.testBit ((r + 4) % 12) then (r + 4) % 12 else lwN m := by simp [chN, h]
theorem ch_4 {r m : Nat} : chN 4 r m = if m.testBit r then r else 12 := by
  by_cases h : m = 0
  · subst h; simp [chN]
  · simp [chN, h]
theorem ch_5 {r m : Nat} : chN 5 r m = if m.testBit r then r else if m.testBit ((r + 7) % 12) then (r + 7) % 12 else 12 := by
  by_cases h : m = 0
  · subst h; simp [chN]
  · simp [chN, h]
theorem n_ab {r d : Nat} (hr : r < 12) (hd : d < 12) : (nI r + nI d) - (nI r + nI d) / 12 * 12 = nI ((r + d) % 12) := by
  rw [nI_add]
  exact pk_rem (d := 12) (by omega) (by decide) (by decide)
theorem bit12 {m : Nat} (hm : m < 4096) : m.testBit 12 = false := Nat.testBit_lt_two_pow hm
theorem x_choose {k r m : Nat} {rI : Int32} {σ : kS} (hk : 1 ≤ k ∧ k ≤ 5) (hm : m < 4096) (hr : r < 12) (he : m ≠ 0 → rI = nI r) : R_X1_choose (nI k) rI (nI m) σ (nI (chN k r m)) σ := by
  refine t_X1_choose ⟨fun c => ?_, fun c => ?_⟩
  · have h0 : m ≠ 0 := fun q => c (by rw [q]; rfl)
    have he := he h0
    subst he
    rw [n_T (by omega)]
    refine ⟨fun q => ?_, fun q => ?_, fun q => ?_, fun q => ?_, fun q => ?_⟩
    · have : k = 2 := by omega
      subst this
      exact ⟨_, _, x_greatest hm, by rw [ch_2 h0], rfl⟩
    · have : k = 3 := by omega
      subst this
      refine ⟨_, _, x_least hm, ?_⟩
      rw [show (3 : Int32) = nI 3 from rfl, show (4 : Int32) = nI 4 from rfl, n_ab hr (by decide), n_ab hr (by decide)]
      refine ⟨_, _, x_first hm (by omega) (by omega), ?_, rfl⟩
      rw [ch_3 h0, apply_ite nI, apply_ite nI]
    · have : k = 4 := by omega
      subst this
      refine ⟨_, _, x_first (b := 12) hm (by omega) (by decide), ?_, rfl⟩
      rw [ch_4, bit12 hm, apply_ite nI]
      simp only [Bool.false_eq_true, if_false]
      rfl
    · have : k = 5 := by omega
      subst this
      rw [show (7 : Int32) = nI 7 from rfl, n_ab hr (by decide)]
      refine ⟨_, _, x_first hm (by omega) (by omega), ?_, rfl⟩
      rw [ch_5, apply_ite nI, apply_ite nI]
      rfl
    · have : k = 1 := by omega
      subst this
      exact ⟨_, _, x_least hm, by rw [ch_1 h0], rfl⟩
  · have h0 : m = 0 := (n_eq0 (by omega)).mp c
    subst h0
    exact ⟨rfl, rfl⟩
theorem m_singsOf {k r m : Nat} {σ : kS} (hk : 1 ≤ k ∧ k ≤ 5) (hm : m < 4096) (hr : r < 12) : R_X9_singsOf (nI k) (nI m) (nI r) σ (nI (chN k r m)) σ := by
  refine t_X9_singsOf ?_
  rw [n_T (by omega), n_hs (by omega) (by omega), n_eq0 (by omega)]
  rw [show (3 : Int32) = nI 3 from rfl, show (4 : Int32) = nI 4 from rfl, show (7 : Int32) = nI 7 from rfl, n_ab hr (by decide), n_ab hr (by decide), n_ab hr (by decide), n_hs (by omega) (by omega), n_hs (by omega) (by omega), n_hs (by omega) (by omega)]
  have e0 : ∀ j, (0 : Nat).testBit j = false := Nat.zero_testBit
  refine ⟨fun q => ⟨fun c => ?_, fun c => ?_⟩, fun q => ⟨fun c => ?_, fun c => ?_⟩, fun q => ⟨fun c => ⟨fun c2 => ⟨fun c3 => ?_, fun c3 => ?_⟩, fun c2 => ?_⟩, fun c => ?_⟩, fun q => ⟨fun c => ?_, fun c => ?_⟩, fun q => ⟨fun c => ⟨fun c2 => ?_, fun c2 => ?_⟩, fun c => ?_⟩⟩
  · obtain rfl : k = 1 := by omega
    exact ⟨_, _, m_lowest hm c, by rw [ch_1 c], rfl⟩
  · exact ⟨by rw [c]; rfl, rfl⟩
  · obtain rfl : k = 2 := by omega
    exact ⟨_, _, m_highest hm c, by rw [ch_2 c], rfl⟩
  · exact ⟨by rw [c]; rfl, rfl⟩
  · obtain rfl : k = 3 := by omega
    exact ⟨_, _, m_lowest hm c3, by rw [ch_3 c3, if_neg c, if_neg c2], rfl⟩
  · exact ⟨by rw [c3]; rfl, rfl⟩
  · obtain rfl : k = 3 := by omega
    have h0 : m ≠ 0 := fun z => by rw [z, e0] at c2; cases c2
    exact ⟨by rw [ch_3 h0, if_neg c, if_pos c2], rfl⟩
  · obtain rfl : k = 3 := by omega
    have h0 : m ≠ 0 := fun z => by rw [z, e0] at c; cases c
    exact ⟨by rw [ch_3 h0, if_pos c], rfl⟩
  · obtain rfl : k = 4 := by omega
    exact ⟨by rw [ch_4, if_neg c]; rfl, rfl⟩
  · obtain rfl : k = 4 := by omega
    exact ⟨by rw [ch_4, if_pos c], rfl⟩
  · obtain rfl : k = 5 := by omega
    exact ⟨by rw [ch_5, if_neg c, if_neg c2]; rfl, rfl⟩
  · obtain rfl : k = 5 := by omega
    exact ⟨by rw [ch_5, if_neg c, if_pos c2], rfl⟩
  · obtain rfl : k = 5 := by omega
    exact ⟨by rw [ch_5, if_pos c], rfl⟩
