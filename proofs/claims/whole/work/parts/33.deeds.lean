/-! hour, send, sound, undo -/
theorem sc_k : ∀ k, k ∈ [20, 21, 22, 23] → k ∈ [3, 5, 9, 10, 20, 21, 22, 23, 28] := by decide
/-- both valleys have become B, the act is kept -/
theorem Inv_b {A B : Nat → Nat} {σ μ τ ν : kS} (i1 : I1 A σ μ) (i2 : I2 σ μ) (i3 : I3 σ μ) (i4 : I4 B τ ν) (i5 : I5 σ μ) (hW : WF B) (h0 : B 0 ≤ 9999) (hs : sh A B) (hx : vx 3 τ B) (hm : mr 5 ν B)
    (f1 : fr [3, 5, 9, 10, 20, 21, 22, 23, 28] σ τ) (f2 : fr [0, 5, 10, 11] μ ν) (e3 : ν.1 0 3 = μ.1 0 3) : Inv τ ν := by
  have g1 : ∀ k, k ∉ [3, 5, 9, 10, 20, 21, 22, 23, 28] → τ.1 k = σ.1 k ∧ τ.2 k = σ.2 k := f1
  refine ⟨B, ⟨hW, h0, hx, hm, fun q => ?_⟩, I2_kp i2 (by rw [(f1 1 (by simp)).1]) (f1 2 (by simp)).1 e3 (f2 4 (by simp)).1, I3_kp i3 (fun k a b => (g1 k (by simp; omega)).1) (f2 8 (by simp)).1 (f2 9 (by simp)).1, i4, I5_kp i5 (fun k a b => g1 k (by simp; omega)) (f2 1 (by simp)).1 (f2 2 (by simp)).1 (f2 3 (by simp)).2⟩
  rw [← hs.1] at q
  exact CT_sh hs (CT_o (i1.2.2.2.2 q) (f1 25 (by simp)).1 (f1 26 (by simp)).1)
theorem I4_o {A : Nat → Nat} {L M : List Nat} {σ μ τ ν : kS} (h : I4 A σ μ) (f1 : fr L σ τ) (f2 : fr M μ ν) (h1 : ∀ k, 20 ≤ k → k ≤ 23 → k ∉ L) (h2 : 0 ∉ M ∧ 10 ∉ M) : I4 A τ ν :=
  I4_kp h (fun k a b => (f1 k (h1 k a b)).1) (by rw [(f2 0 h2.1).1]) (f2 10 h2.2).1
theorem UN_hr {A : Nat → Nat} : UN 0 (nI (pk5 A (A 3))) 0 (hrA A) A := by
  refine Or.inl ⟨rfl, ?_, fun j h0 hj => ?_, ?_⟩
  · unfold hrA; rw [if_pos rfl]
  · have e3 : hrA A 3 = A 3 := hrA_o (by decide) (by omega)
    rw [e3] at hj
    exact (hrA_o h0 hj).symm
  · have e3 : hrA A 3 = A 3 := hrA_o (by decide) (by omega)
    rw [e3]; rfl
theorem q_hour {σ μ : kS} (h : Inv σ μ) : ∃ x τ ν, R_X8_hour σ x τ ∧ R_X9_hour μ x ν ∧ Inv τ ν := by
  obtain ⟨A, i1, i2, i3, i4, i5⟩ := id h
  have hc := wfc i1.1
  by_cases qt : 0 < A 1
  · by_cases q9 : A 0 = 9999
    · refine ⟨-2, σ, μ, t_X8_hour ⟨fun c => absurd ((I1_th i1).mpr qt) c, fun _ => ⟨fun c => absurd c ?_, fun _ => ⟨rfl, rfl⟩⟩⟩, t_X9_hour ⟨fun c => absurd ((I1_tm i1).mpr qt) c, fun _ => ⟨fun c => absurd ?_ c, fun _ => ⟨rfl, rfl⟩⟩⟩, h⟩
      · rw [i1.2.2.1.1.2.2.2, q9]; exact nI_nlt (b := 9999) (Nat.le_refl _) (by decide)
      · rw [mr_n i1.2.2.2.1 (by decide), q9]; rfl
    · have hh : σ.1 3 3 < 9999 := by rw [i1.2.2.1.1.2.2.2]; exact nI_lt (b := 9999) (by have := i1.2.1; omega) (by decide)
      have hm : ¬ μ.1 5 0 = 9999 := by rw [mr_n i1.2.2.2.1 (by decide)]; exact fun c => q9 ((nI_eq (b := 9999) (by have := i1.2.1; omega) (by decide)).mp c)
      have e1 : hrA A 1 = A 1 := hrA_o (by decide) (by omega)
      obtain ⟨s, m, k1, k2, k3, k4, k5, k6⟩ := k_push i1 i4 UN_hr (by rw [e1]; exact qt)
      have hT := CT_o (i1.2.2.2.2 qt) (k3 25 (by simp)).1 (k3 26 (by simp)).1
      have hx : vx 3 s A := vx_kp i1.2.2.1 (fun k a b => (k3 k (by simp; omega)).1)
      have hr : mr 5 m A := mr_kp i1.2.2.2.1 (k4 5 (by simp)).1
      obtain ⟨τ, p1, p2, p3⟩ := x_passHour (v := 3) rfl hx hT i1.1 (by have := i1.2.1; omega)
      obtain ⟨ν, r1, r2, r3⟩ := m_hourIn (r := 5) rfl (by decide) hr i1.1 (by have := i1.2.1; omega)
      refine ⟨_, τ, ν, t_X8_hour ⟨fun c => absurd ((I1_th i1).mpr qt) c, fun _ => ⟨fun _ => ⟨_, _, x_pack (v := 3) rfl i1.2.2.1 i1.1, s, k1, _, _, p1, rfl, rfl⟩, fun c => absurd hh c⟩⟩, t_X9_hour ⟨fun c => absurd ((I1_tm i1).mpr qt) c, fun _ => ⟨fun _ => ⟨m, k2, _, _, r1, rfl, rfl⟩, fun c => absurd c hm⟩⟩, ?_⟩
      have h0 : hrA A 0 = A 0 + 1 := by unfold hrA; rw [if_pos rfl]
      refine Inv_b i1 i2 i3 (I4_o k6 p3 r3 (fun k a b => by simp; omega) (by decide)) i5 (hrA_wf i1.1 (by have := i1.2.1; omega)) (by have := i1.2.1; omega) (sh_hr i1.1) p2 r2 (fr_tr (fr_mo k3 sc_k) (fr_mo p3 (by decide))) (fr_tr (fr_mo k4 (by decide)) (fr_mo r3 (by decide))) ?_
      rw [(r3 0 (by decide)).1, k5]
  · exact ⟨-2, σ, μ, t_X8_hour ⟨fun _ => ⟨rfl, rfl⟩, fun c => absurd ((I1_th i1).mp c) qt⟩, t_X9_hour ⟨fun _ => ⟨rfl, rfl⟩, fun c => absurd ((I1_tm i1).mp c) qt⟩, h⟩
theorem vI_pI {A : Nat → Nat} {p : Nat} (h : A (33 + p) ≤ 9) : vI A (33 + p) = tP (pI (A (33 + p))) := by
  rw [tP_pI h]; unfold vI
  by_cases q : A (33 + p) = 9
  · rw [if_pos ⟨by omega, q⟩, if_pos q]
  · rw [if_neg (fun c => q c.2), if_neg q]
theorem pg {g n : Nat} (hn : n ≤ 5) (hg : g < n ∨ g = 9) : g = 9 ∧ pI g = -1 ∨ g < n ∧ pI g = nI g ∧ ¬ nI g = -1 := by
  by_cases q : g = 9
  · exact Or.inl ⟨q, by unfold pI; rw [if_pos q]⟩
  · refine Or.inr ⟨by omega, by unfold pI; rw [if_neg q], fun c => ?_⟩
    have := congrArg Int32.toInt c
    rw [n_T (by omega), show (-1 : Int32).toInt = -1 from rfl] at this
    omega
theorem q_send {a b : Int32} {σ μ : kS} (h : Inv σ μ) : ∃ x τ ν, R_X8_send a b σ x τ ∧ R_X9_send a b μ x ν ∧ Inv τ ν := by
  obtain ⟨A, i1, i2, i3, i4, i5⟩ := id h
  have hc := wfc i1.1
  obtain ⟨e1, e2⟩ := I1_s i1 a
  obtain ⟨f1, f2⟩ := I1_f i1 b
  by_cases qa : ∃ k, k < A 3 ∧ a = nI k
  · obtain ⟨p, hp, rfl⟩ := id qa
    by_cases qb : ∃ g, (g < A 2 ∨ g = 9) ∧ b = pI g
    · obtain ⟨g, hg, rfl⟩ := id qb
      have hpl := (i1.1.2.2.2.2.2 p hp).2.2.2
      have hp9 : A (33 + p) ≤ 9 := by omega
      have qt : 0 < A 1 := by have := i1.1.2.2.1; omega
      have gx : σ.1 9 p = pI (A (33 + p)) := (i1.2.2.1.2.2.2 p hp).2.2.2.2
      have gm : μ.1 5 (33 + p) = tP (pI (A (33 + p))) := (i1.2.2.2.1 (33 + p) (by omega)).trans (vI_pI hp9)
      have hgi := pg hc.2.1 hg
      -- the class and the reference agree whether anything changes
      have hpi : (pI (A (33 + p)) = pI g ↔ A (33 + p) = g) := by
        rcases hgi with ⟨q, e⟩ | ⟨q, e, -⟩
        · rw [e]; unfold pI
          by_cases z : A (33 + p) = 9
          · rw [if_pos z]; exact ⟨fun _ => z.trans q.symm, fun _ => rfl⟩
          · rw [if_neg z]
            refine ⟨fun c => ?_, fun c => absurd (c.trans q) z⟩
            have := congrArg Int32.toInt c
            rw [n_T (by omega), show (-1 : Int32).toInt = -1 from rfl] at this
            omega
        · rw [e, pI_eq (Nat.lt_of_lt_of_le q (by omega)) hp9]
      have hg9 : g ≤ 9 := by omega
      have htp : (tP (pI (A (33 + p))) = tP (pI g) ↔ A (33 + p) = g) := by
        rw [tP_pI hp9, tP_pI hg9]
        have m4 : ∀ z, z < 9 → ¬ nI z = -4 := fun z hz c => by
          have := congrArg Int32.toInt c
          rw [n_T (by omega), show (-4 : Int32).toInt = -4 from rfl] at this
          omega
        by_cases z : A (33 + p) = 9 <;> by_cases w : g = 9
        · rw [if_pos z, if_pos w]; exact ⟨fun _ => z.trans w.symm, fun _ => rfl⟩
        · rw [if_pos z, if_neg w]; exact ⟨fun c => absurd c.symm (m4 g (by omega)), fun c => absurd (c ▸ z) w⟩
        · rw [if_neg z, if_pos w]; exact ⟨fun c => absurd c (m4 _ (by omega)), fun c => absurd (c.trans w) z⟩
        · rw [if_neg z, if_neg w, nI_eq (by omega) (by omega)]
      have key : ∃ x τ ν, E_X8_send_23 (nI p) (pI g) σ x τ ∧ E_X9_send_44 (nI p) (tP (pI (A (33 + p)))) (tP (pI g)) μ x ν ∧ Inv τ ν := by
        by_cases qe : A (33 + p) = g
        · refine ⟨-2, σ, μ, t_X8_send_23 ⟨n_in (by omega) (by decide), ?_⟩, t_X9_send_44 ⟨fun c => absurd (htp.mpr qe) c, fun _ => ⟨rfl, rfl⟩⟩, h⟩
          rw [n_N (by omega), gx]
          exact ⟨fun c => absurd (hpi.mpr qe) c, fun _ => ⟨rfl, rfl⟩⟩
        · have hu : UN 1 (nI p) (pI (A (33 + p))) (seA A p g) A := by
            refine Or.inr (Or.inl ⟨rfl, p, ?_, rfl, rfl, fun j hj => ?_⟩)
            · unfold seA; rw [if_neg (by omega)]; exact hp
            · unfold seA; rw [if_neg hj]
          obtain ⟨s, m, k1, k2, k3, k4, k5, k6⟩ := k_push i1 i4 hu (by unfold seA; rw [if_neg (by omega)]; exact qt)
          have hx : vx 3 s A := vx_kp i1.2.2.1 (fun k a b => (k3 k (by simp; omega)).1)
          have hr : mr 5 m A := mr_kp i1.2.2.2.1 (k4 5 (by simp)).1
          refine ⟨tP (pI (A (33 + p))), k_si s 9 p (pI g), k_si m 5 (33 + p) (tP (pI g)), t_X8_send_23 ⟨n_in (by omega) (by decide), ?_⟩, t_X9_send_44 ⟨fun _ => ⟨m, k2, ?_⟩, fun c => absurd (htp.mp c) qe⟩, ?_⟩
          · rw [n_N (by omega), gx]
            exact ⟨fun _ => ⟨s, k1, n_in (by omega) (by decide), rfl, rfl⟩, fun c => absurd (hpi.mp c) qe⟩
          · rw [show (33 : Int32) = nI 33 from rfl, nI_add, n_N (by omega)]
            exact ⟨n_in (by omega) (by decide), rfl, rfl⟩
          · have hmr : mr 5 (k_si m 5 (33 + p) (tP (pI g))) (seA A p g) := by
              rw [tP_pI hg9]
              by_cases w : g = 9
              · rw [if_pos w, w]; exact mr_home hr
              · rw [if_neg w]; exact mr_send hr (by omega)
            have f3 : fr [9] s (k_si s 9 p (pI g)) := fr_si (by simp)
            have f4 : fr [5] m (k_si m 5 (33 + p) (tP (pI g))) := fr_si (by simp)
            refine Inv_b i1 i2 i3 (I4_o k6 f3 f4 (fun k a b => by simp; omega) (by decide)) i5 (se_wf i1.1 hp hg) (by unfold seA; rw [if_neg (by omega)]; exact i1.2.1) (se_sh i1.1) (vx_send hx i1.1 hp) hmr (fr_tr (fr_mo k3 sc_k) (fr_mo f3 (by decide))) (fr_tr (fr_mo k4 (by decide)) (fr_mo f4 (by decide))) ?_
            rw [(f4 0 (by decide)).1, k5]
      obtain ⟨x, τ, ν, g1, g2, g3⟩ := key
      have g2' : E_X9_send_23 (nI p) (pI g) μ x ν := by
        refine t_X9_send_23 ?_
        rw [show (33 : Int32) = nI 33 from rfl, nI_add, n_N (by omega), gm]
        refine ⟨n_in (by omega) (by decide), fun c => ?_, fun c => ?_⟩
        · have : tP (pI g) = pI g := by unfold tP; rw [if_neg c]
          rw [this] at g2; exact g2
        · have : tP (pI g) = -4 := by unfold tP; rw [if_pos c]
          rw [this] at g2; exact g2
      have hb : ¬ pI g = -1 → ∃ k, k < A 2 ∧ pI g = nI k := fun c => by
        rcases hgi with ⟨-, e⟩ | ⟨q, e, -⟩
        · exact absurd e c
        · exact ⟨g, q, e⟩
      exact ⟨x, τ, ν, t_X8_send ⟨fun c => absurd (e1.mpr qa) c, fun _ => ⟨fun _ => g1, fun c => ⟨fun _ => g1, fun c2 => absurd (f1.mpr (hb c)) c2⟩⟩⟩, t_X9_send ⟨fun c => absurd (e2.mpr qa) c, fun _ => ⟨fun _ => g2', fun c => ⟨fun _ => g2', fun c2 => absurd (f2.mpr (hb c)) c2⟩⟩⟩, g3⟩
    · have n1 : ¬ b = -1 := fun c => qb ⟨9, Or.inr rfl, c⟩
      have n2 : ¬ ∃ k, k < A 2 ∧ b = nI k := fun ⟨k, hk, e⟩ => qb ⟨k, Or.inl hk, by unfold pI; rw [if_neg (by omega)]; exact e⟩
      exact ⟨-1, σ, μ, t_X8_send ⟨fun _ => ⟨rfl, rfl⟩, fun _ => ⟨fun c => absurd c n1, fun _ => ⟨fun c => absurd (f1.mp c) n2, fun _ => ⟨rfl, rfl⟩⟩⟩⟩, t_X9_send ⟨fun _ => ⟨rfl, rfl⟩, fun _ => ⟨fun c => absurd c n1, fun _ => ⟨fun c => absurd (f2.mp c) n2, fun _ => ⟨rfl, rfl⟩⟩⟩⟩, h⟩
  · exact ⟨-1, σ, μ, t_X8_send ⟨fun _ => ⟨rfl, rfl⟩, fun c => absurd (e1.mp c) qa⟩, t_X9_send ⟨fun _ => ⟨rfl, rfl⟩, fun c => absurd (e2.mp c) qa⟩, h⟩
theorem q_sound {a b : Int32} {σ μ : kS} (h : Inv σ μ) : ∃ x τ ν, R_X8_sound a b σ x τ ∧ R_X9_sound a b μ x ν ∧ Inv τ ν := by
  obtain ⟨A, i1, i2, i3, i4, i5⟩ := id h
  have hc := wfc i1.1
  obtain ⟨e1, e2⟩ := I1_f i1 a
  have f1 := c_wn b 12 (by decide)
  have f2 := c_iv b 11 (by decide)
  by_cases qa : ∃ k, k < A 2 ∧ a = nI k
  · obtain ⟨f, hf, rfl⟩ := id qa
    by_cases qb : ∃ k, k < 12 ∧ b = nI k
    · obtain ⟨p, hp, rfl⟩ := id qb
      have qt : 0 < A 1 := by have := i1.1.2.2.1; omega
      have hs := i1.1.2.2.2.2.1 f hf
      have ht : tuA A f p (8 + f) = A (8 + f) ^^^ 2 ^ p := by unfold tuA; rw [if_pos rfl]
      have to : ∀ j, j ≠ 8 + f → tuA A f p j = A j := fun j hj => by unfold tuA; rw [if_neg hj]
      have hu : UN 2 (nI f) (nI p) (tuA A f p) A := by
        refine Or.inr (Or.inr ⟨rfl, f, p, by rw [to 2 (by omega)]; exact hf, hp, rfl, rfl, ?_, fun j hj => (to j hj).symm⟩)
        rw [ht, Nat.xor_assoc, Nat.xor_self, Nat.xor_zero]
      obtain ⟨s, m, k1, k2, k3, k4, k5, k6⟩ := k_push i1 i4 hu (by rw [to 1 (by omega)]; exact qt)
      have hx : vx 3 s A := vx_kp i1.2.2.1 (fun k a b => (k3 k (by simp; omega)).1)
      have hr : mr 5 m A := mr_kp i1.2.2.2.1 (k4 5 (by simp)).1
      have x1 := x_turn (v := 3) rfl hx i1.1 hf hp
      have x2 := vx_turn (p := p) hx i1.1 hf
      have m1 := m_turn (r := 5) rfl hr i1.1 hf hp
      have m2 := mr_turn (p := p) hr i1.1 hf
      have hn := xp_lt hs hp
      have f3 : fr [5] s (k_si s (3 + 2) f (nI (A (8 + f) ^^^ 2 ^ p))) := fr_si (by simp)
      have f4 : fr [5] m (k_si m 5 (8 + f) (nI (A (8 + f) ^^^ 2 ^ p))) := fr_si (by simp)
      refine ⟨if (A (8 + f) ^^^ 2 ^ p).testBit p = true then 1 else 0, k_si s (3 + 2) f (nI (A (8 + f) ^^^ 2 ^ p)), k_si m 5 (8 + f) (nI (A (8 + f) ^^^ 2 ^ p)), t_X8_sound ⟨fun c => absurd (e1.mpr qa) c, fun _ => ⟨fun _ => ⟨s, k1, _, x1, n_in (by omega) (by decide), ?_⟩, fun c => absurd (f1.mpr qb) c⟩⟩, t_X9_sound ⟨fun c => absurd (e2.mpr qa) c, fun _ => ⟨fun _ => ⟨m, k2, _, m1, ?_⟩, fun c => absurd (f2.mpr qb) c⟩⟩, ?_⟩
      · rw [n_N (by omega), k_si_at, n_hs (by omega) (by omega)]
        exact ⟨fun c => ⟨by rw [if_neg c], rfl⟩, fun c => ⟨by rw [if_pos c], rfl⟩⟩
      · rw [show (8 : Int32) = nI 8 from rfl, nI_add, n_N (by omega), k_si_at, n_hs (by omega) (by omega)]
        exact ⟨n_in (by omega) (by decide), fun c => ⟨by rw [if_neg c], rfl⟩, fun c => ⟨by rw [if_pos c], rfl⟩⟩
      · refine Inv_b i1 i2 i3 (I4_o k6 f3 f4 (fun k a b => by simp; omega) (by decide)) i5 (tu_wf i1.1 hf hp) (by rw [to 0 (by omega)]; exact i1.2.1) (tu_sh i1.1) x2 m2 (fr_tr (fr_mo k3 sc_k) (fr_mo f3 (by decide))) (fr_tr (fr_mo k4 (by decide)) (fr_mo f4 (by decide))) ?_
        rw [(f4 0 (by decide)).1, k5]
    · exact ⟨-1, σ, μ, t_X8_sound ⟨fun _ => ⟨rfl, rfl⟩, fun _ => ⟨fun c => absurd (f1.mp c) qb, fun _ => ⟨rfl, rfl⟩⟩⟩, t_X9_sound ⟨fun _ => ⟨rfl, rfl⟩, fun _ => ⟨fun c => absurd (f2.mp c) qb, fun _ => ⟨rfl, rfl⟩⟩⟩, h⟩
  · exact ⟨-1, σ, μ, t_X8_sound ⟨fun _ => ⟨rfl, rfl⟩, fun c => absurd (e1.mp c) qa⟩, t_X9_sound ⟨fun _ => ⟨rfl, rfl⟩, fun c => absurd (e2.mp c) qa⟩, h⟩
theorem q_undo {σ μ : kS} (h : Inv σ μ) : ∃ x τ ν, R_X8_undo σ x τ ∧ R_X9_undo μ x ν ∧ Inv τ ν := by
  obtain ⟨A, i1, i2, i3, ⟨a, x, S, ha, hx, e1, e2, e3, hS, h1, hj⟩, i5⟩ := id h
  have hc := wfc i1.1
  cases a with
  | zero => exact ⟨-4, σ, μ, t_X8_undo ⟨fun c => absurd e1 c, fun _ => ⟨rfl, rfl⟩⟩, t_X9_undo ⟨fun c => absurd e3 c, fun _ => ⟨rfl, rfl⟩⟩, h⟩
  | succ b =>
    obtain ⟨⟨w1, w0⟩, w2, w3⟩ := hj b (by omega)
    rw [hS] at w3
    have wc := wfc w1
    have hp : (x + 24 - (b + 1) + b) % 24 = (x + 23) % 24 := by omega
    rw [hp] at w3
    have hp2 : (x + 23) % 24 < 24 := Nat.mod_lt _ (by decide)
    have ep : (((σ.1 20 1) + (24 : Int32)) - (1 : Int32)) - (((σ.1 20 1) + (24 : Int32)) - (1 : Int32)) / (24 : Int32) * (24 : Int32) = nI ((x + 23) % 24) := by
      rw [e2, show (24 : Int32) = nI 24 from rfl, nI_add, show (1 : Int32) = nI 1 from rfl, pk_sub (by omega)]
      exact (n_r24 (by omega)).trans (by rw [show x + 24 - 1 = x + 23 by omega])
    have ea : σ.1 20 0 - 1 = nI b := by rw [e1]; exact nI_pred b
    -- the class's valley is what it was
    have kx : ∃ τ, R_X0_takeBack σ τ ∧ vx 3 τ (S b) ∧ fr [3, 5, 9, 10, 20] σ τ ∧ τ.1 20 0 = nI b ∧ τ.1 20 1 = nI ((x + 23) % 24) ∧ sh A (S b) := by
      have hx0 : ∀ s : kS, (∀ k, 3 ≤ k → k ≤ 10 → s.1 k = σ.1 k) → vx 3 s A := fun s hs => vx_kp i1.2.2.1 (fun k a b => hs k a (by omega))
      have hin : vp_in (nI ((x + 23) % 24)) 24 := n_in hp2 (by decide)
      let s0 : kS := k_si (k_si σ 20 1 (nI ((x + 23) % 24))) 20 0 (nI b)
      have f0 : fr [20] σ s0 := fr_tr (fr_si (by simp)) (fr_si (by simp))
      have v0 : vx 3 s0 A := hx0 s0 (fun k a b => (f0 k (by simp; omega)).1)
      have z0 : s0.1 20 0 = nI b ∧ s0.1 20 1 = nI ((x + 23) % 24) := ⟨by simp [s0, s_i], by simp [s0, s_i]⟩
      rcases w3 with ⟨u1, u2, u3, u4⟩ | ⟨u1, p, u2, u3, u4, u5⟩ | ⟨u1, f, p, u2, u3, u4, u5, u6, u7⟩
      · have d3 : S b 3 = A 3 := u3 3 (by decide) (by omega)
        obtain ⟨τ, g1, g2, g3⟩ := x_unpack (v := 3) (σ := s0) (A := S b) rfl (by rw [d3]; exact v0.1.2.2.1) w1
        have gt : τ.1 3 = s0.1 3 := (g3 3 (by decide)).1
        have e9 : τ.1 3 3 - 1 = nI (S b 0) := by rw [gt, v0.1.2.2.2, ← u2]; exact nI_pred _
        refine ⟨k_si τ 3 3 (nI (S b 0)), t_X0_takeBack ?_, ?_, ?_, ?_, ?_, ?_⟩
        · rw [ep, n_N (by omega), ea, u1, u4]
          refine ⟨hin, fun _ => ⟨hin, τ, ?_, by rw [e9]⟩, fun c => absurd rfl c⟩
          rw [← d3]; exact g1
        · unfold vx
          rw [u3 1 (by decide) (by omega), u3 2 (by decide) (by omega), d3, k_si_o (show 3 + 1 ≠ 3 by decide), k_si_o (show 3 + 2 ≠ 3 by decide), k_si_o (show 3 + 3 ≠ 3 by decide), k_si_o (show 3 + 4 ≠ 3 by decide), k_si_o (show 3 + 5 ≠ 3 by decide), k_si_o (show 3 + 6 ≠ 3 by decide), k_si_o (show 3 + 7 ≠ 3 by decide),
            (g3 (3 + 1) (by decide)).1, (g3 (3 + 2) (by decide)).1, (g3 (3 + 3) (by decide)).1, (g3 (3 + 4) (by decide)).1, (g3 (3 + 5) (by decide)).1, (g3 (3 + 6) (by decide)).1]
          refine ⟨⟨?_, ?_, ?_, k_si_at⟩, fun i hi => ?_, fun i hi => ?_, fun i hi => ?_⟩
          · rw [s_i, if_pos rfl, if_neg (by decide), gt]; exact v0.1.1
          · rw [s_i, if_pos rfl, if_neg (by decide), gt]; exact v0.1.2.1
          · rw [s_i, if_pos rfl, if_neg (by decide), gt]; exact v0.1.2.2.1
          · rw [u3 _ (by omega) (by omega)]; exact v0.2.1 i hi
          · rw [u3 _ (by omega) (by omega)]; exact v0.2.2.1 i hi
          · obtain ⟨a3, a4, a5, -, a6⟩ := v0.2.2.2 i hi
            rw [u3 (13 + i) (by omega) (by omega), u3 (18 + i) (by omega) (by omega), u3 (23 + i) (by omega) (by omega), u3 (33 + i) (by omega) (by omega)]
            exact ⟨a3, a4, a5, g2 i (by rw [d3]; exact hi), a6⟩
        · exact fr_tr (fr_tr (fr_mo f0 (by decide)) (fr_mo g3 (by decide))) (fr_si (by simp))
        · rw [k_si_o (by decide), (g3 20 (by decide)).1]; exact z0.1
        · rw [k_si_o (by decide), (g3 20 (by decide)).1]; exact z0.2
        · exact ⟨(u3 1 (by decide) (by omega)).symm, fun i hi => (u3 _ (by omega) (by omega)).symm⟩
      · refine ⟨k_si s0 9 p (pI (S b (33 + p))), t_X0_takeBack ?_, ?_, ?_, ?_, ?_, ?_⟩
        · rw [ep, n_N (by omega), ea, u1, u3, u4, n_N (by omega)]
          exact ⟨hin, fun c => absurd c (by decide), fun _ => ⟨fun _ => ⟨hin, hin, n_in (by omega) (by decide), rfl⟩, fun c => absurd rfl c⟩⟩
        · have e : S b = seA A p (S b (33 + p)) := by
            funext j; unfold seA
            by_cases q : j = 33 + p
            · rw [if_pos q, q]
            · rw [if_neg q]; exact u5 j q
          have := vx_send (p := p) (g := S b (33 + p)) v0 i1.1 u2
          rw [← e] at this
          exact this
        · exact fr_tr (fr_mo f0 (by decide)) (fr_si (by simp))
        · rw [k_si_o (by decide)]; exact z0.1
        · rw [k_si_o (by decide)]; exact z0.2
        · exact ⟨(u5 1 (by omega)).symm, fun i hi => (u5 _ (by omega)).symm⟩
      · have e : S b = tuA A f p := by
          funext j; unfold tuA
          by_cases q : j = 8 + f
          · rw [if_pos q, q]; exact u6
          · rw [if_neg q]; exact u7 j q
        refine ⟨k_si s0 (3 + 2) f (nI (A (8 + f) ^^^ 2 ^ p)), t_X0_takeBack ?_, ?_, ?_, ?_, ?_, ?_⟩
        · rw [ep, n_N (by omega), ea, u1, u4, u5]
          exact ⟨hin, fun c => absurd c (by decide), fun _ => ⟨fun c => absurd c (by decide), fun _ => ⟨hin, hin, _, x_turn (v := 3) rfl v0 i1.1 u2 u3, rfl⟩⟩⟩
        · rw [e]; exact vx_turn v0 i1.1 u2
        · exact fr_tr (fr_mo f0 (by decide)) (fr_si (by simp))
        · rw [k_si_o (by decide)]; exact z0.1
        · rw [k_si_o (by decide)]; exact z0.2
        · rw [e]; exact tu_sh i1.1
    obtain ⟨τ, t1, t2, t3, t4, t5, t6⟩ := kx
    have b1 := m_bring (r0 := 10) (n0 := 912) (r2 := 5) (n2 := 38) (i := 38 * b) (j := 0) (n := 38) (σ := k_si μ 0 12 (nI b)) rfl rfl (by omega) (by decide) (by decide) (by decide) (Or.inl (by decide))
    have eb : μ.1 0 12 - 1 = nI b := by rw [e3]; exact nI_pred b
    have f2 : fr [0, 5] μ (k_cp (k_si μ 0 12 (nI b)) 10 5 (38 * b) 0 38) := fr_tr (fr_si (by simp)) (fr_cp (by simp))
    refine ⟨nI b, τ, k_cp (k_si μ 0 12 (nI b)) 10 5 (38 * b) 0 38, t_X8_undo ⟨fun _ => ⟨τ, t1, t4.symm, rfl⟩, fun c => absurd (e1.symm.trans c) (nI_ne0 (by omega) (by omega))⟩, t_X9_undo ⟨fun _ => ?_, fun c => absurd (e3.symm.trans c) (nI_ne0 (by omega) (by omega))⟩, ?_⟩
    · rw [eb, show (38 : Int32) = nI 38 from rfl, pk_mul]
      exact ⟨_, b1, by rw [k_cp_o (by decide), k_si_at], rfl⟩
    · have q1 : ∀ k, 20 < k → k ≤ 23 → τ.1 k = σ.1 k := fun k a b => (t3 k (by simp; omega)).1
      refine Inv_b i1 i2 i3 ⟨b, (x + 23) % 24, S, by omega, hp2, t4, t5, ?_, rfl, fun _ => ?_, fun j hj2 => ?_⟩ i5 w1 w0 t6 t2 (fun i hi => ?_) (fr_mo t3 (by decide)) (fr_mo f2 (by decide)) ?_
      · rw [k_cp_o (by decide), k_si_at]
      · rw [← t6.1]; exact h1 (by omega)
      · obtain ⟨y1, y2, y3⟩ := hj j (by omega)
        rw [q1 21 (by decide) (by decide), q1 22 (by decide) (by decide), q1 23 (by decide) (by decide), (f2 10 (by decide)).1]
        refine ⟨y1, y2, ?_⟩
        rw [show ((x + 23) % 24 + 24 - b + j) % 24 = (x + 24 - (b + 1) + j) % 24 by omega]
        exact y3
      · rw [cpA, if_pos rfl, if_pos ⟨Nat.zero_le _, by omega⟩, k_si_o (by decide)]
        exact w2 i hi
      · simp [cpA, s_i]
