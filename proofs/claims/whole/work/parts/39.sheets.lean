/-! sheets -/
theorem fd38 {s : Nat} (h : s < 4) : k_fd SX 38 s = some (some (55 + 2 * s)) ∧ k_sht (55 + 2 * s) = true := by
  rcases (show s = 0 ∨ s = 1 ∨ s = 2 ∨ s = 3 by omega) with rfl | rfl | rfl | rfl <;> exact ⟨rfl, rfl⟩
theorem fd38' {s : Nat} (h : s < 4) : k_fd SX 38 (nI s).toNatClampNeg = some (some (55 + 2 * s)) := by rw [n_N (by omega)]; exact (fd38 h).1
def LSh : List Nat := [55, 56, 57, 58, 59, 60, 61, 62]
theorem Inv_5 {σ μ τ ν : kS} (h : Inv σ μ) (f1 : fr LSh σ τ) (f2 : fr [1, 2, 3] μ ν) (i5 : I5 τ ν) : Inv τ ν := by
  obtain ⟨A, a, b, c, d, e⟩ := h
  have hx : ∀ k, k ∉ LSh → τ.1 k = σ.1 k ∧ τ.2 k = σ.2 k := f1
  exact ⟨A, I1_kp a (fun k hk => (hx k (by simp [LSh]; omega)).1) (f2 5 (by decide)).1, I2_kp b (by rw [(hx 1 (by decide)).1]) (hx 2 (by decide)).1 (by rw [(f2 0 (by decide)).1]) (f2 4 (by decide)).1,
    I3_kp c (fun k p q => (hx k (by simp [LSh]; omega)).1) (f2 8 (by decide)).1 (f2 9 (by decide)).1, I4_kp d (fun k p q => (hx k (by simp [LSh]; omega)).1) (by rw [(f2 0 (by decide)).1]) (f2 10 (by decide)).1, i5⟩
theorem ls_a {s : Nat} (h : s < 4) : 55 + 2 * s ∈ LSh := by simp [LSh]; omega
theorem ls_b {s : Nat} (h : s < 4) : 55 + 2 * s + 1 ∈ LSh := by simp [LSh]; omega
theorem x_holds {s n : Nat} {a1 a2 : Int32} {σ : kS} (hs : k_sht s = true) (h : σ.1 s 1 = nI n) : R_X4_holds s a1 a2 σ (bI (ip a1 a2 (nI n))) σ := by
  refine t_X4_holds hs ⟨fun c => ⟨(bI_f ?_).symm ▸ rfl, rfl⟩, fun c1 => ⟨fun c => ⟨(bI_f ?_).symm ▸ rfl, rfl⟩, fun c2 => ⟨fun c => ⟨(bI_f ?_).symm ▸ rfl, rfl⟩, fun c3 => ⟨fun c => ⟨(bI_f ?_).symm ▸ rfl, rfl⟩, fun c4 => ⟨(bI_t ?_).symm ▸ rfl, rfl⟩⟩⟩⟩⟩
  all_goals (rw [h] at *; simp only [lt_I, i_0] at *; unfold ip; omega)
theorem ip_ok {a c : Int32} {n : Nat} (hn : n ≤ 24) : ip a c (nI n) ↔ ∃ i k, a = nI i ∧ c = nI k ∧ i + k ≤ n := by
  constructor
  · rintro ⟨h1, h2, h3, h4⟩
    rw [n_T (by omega)] at h3
    have ec : c = nI c.toInt.toNat := by apply Int32.toInt_inj.mp; rw [n_T (by omega)]; omega
    rw [ec, pk_sub (by omega), n_T (by omega)] at h4
    refine ⟨a.toInt.toNat, c.toInt.toNat, ?_, ec, by omega⟩
    apply Int32.toInt_inj.mp; rw [n_T (by omega)]; omega
  · rintro ⟨i, k, rfl, rfl, h⟩
    unfold ip
    rw [pk_sub (by omega), n_T (by omega), n_T (by omega), n_T (by omega), n_T (by omega)]
    omega
theorem l_m1 {l : Nat} (h : l < 4) : ¬ nI l = -1 := nb_m1 (by omega)
/-- a row is refused by both or by none -/
theorem p_ref {σ μ : kS} {s l : Nat} {a3 a4 : Int32} (h5 : I5 σ μ) (hs : s < 4) (hl : l < 4) : ∃ x, R_X8_refusal (nI s) (nI l) a3 a4 σ x σ ∧ R_X9_badRow (nI s) (nI l) a3 a4 μ x μ ∧ (x = 0 → ∃ n i k, n ≤ 24 ∧ a3 = nI i ∧ a4 = nI k ∧ i + k ≤ n ∧ σ.1 (55 + 2 * s) 0 = nI l ∧ μ.1 1 s = nI l ∧ ∀ i, i < 24 → σ.2 (56 + 2 * s) i = μ.2 3 (24 * s + i)) := by
  have w1 : wn (nI s) 4 := (c_wn _ 4 (by decide)).mpr ⟨s, hs, rfl⟩
  have w2 : wn (nI l) 4 := (c_wn _ 4 (by decide)).mpr ⟨l, hl, rfl⟩
  have hin : vp_in (nI s) 4 := n_in hs (by decide)
  obtain ⟨e, g⟩ := h5 s hs
  rcases g with g | ⟨l', n, h1, h2, h3, h4, h6, h7⟩
  · refine ⟨-11, t_X8_refusal ⟨fun c => absurd w1 c, fun _ => ⟨fun _ => ⟨hin, _, fd38' hs, (fd38 hs).2, fun c => absurd (e.trans g) c, fun _ => ⟨rfl, rfl⟩⟩, fun c => absurd w2 c⟩⟩, t_X9_badRow ⟨hin, ?_⟩, fun c => absurd c (by decide)⟩
    rw [n_N (by omega), g]
    exact ⟨fun c => absurd c (by decide), fun _ => ⟨rfl, rfl⟩⟩
  · have eq : σ.1 (55 + 2 * s) 0 = nI l' := e.trans h3
    have hn1 : ¬ σ.1 (55 + 2 * s) 0 = -1 := by rw [eq]; exact l_m1 h1
    have h0 : (0 : Int32) ≤ nI l' := nI_pos' (by omega)
    have ell : (nI l' = nI l ↔ l' = l) := nI_eq (by omega) (by omega)
    by_cases q : l' = l
    · have hh := x_holds (a1 := a3) (a2 := a4) (fd38 hs).2 h4
      by_cases qi : ip a3 a4 (nI n)
      · rw [bI_t qi] at hh
        obtain ⟨i, k, e1, e2, e3⟩ := (ip_ok h2).mp qi
        refine ⟨0, t_X8_refusal ⟨fun c => absurd w1 c, fun _ => ⟨fun _ => ⟨hin, _, fd38' hs, (fd38 hs).2, fun _ => ⟨hin, _, fd38' hs, (fd38 hs).2, fun _ => ⟨hin, _, fd38' hs, (fd38 hs).2, _, _, hh, fun c => absurd c (by decide), fun _ => ⟨rfl, rfl⟩⟩, fun c => absurd (by rw [eq, q]) c⟩, fun c => absurd hn1 c⟩, fun c => absurd w2 c⟩⟩, t_X9_badRow ⟨hin, ?_⟩, fun _ => ⟨n, i, k, h2, e1, e2, e3, by rw [eq, q], by rw [h3, q], h7⟩⟩
        rw [n_N (by omega), h3, h6]
        exact ⟨fun _ => ⟨hin, fun _ => ⟨hin, fun c => absurd qi c, fun _ => ⟨rfl, rfl⟩⟩, fun c => absurd (ell.mpr q) c⟩, fun c => absurd h0 c⟩
      · rw [bI_f qi] at hh
        refine ⟨-13, t_X8_refusal ⟨fun c => absurd w1 c, fun _ => ⟨fun _ => ⟨hin, _, fd38' hs, (fd38 hs).2, fun _ => ⟨hin, _, fd38' hs, (fd38 hs).2, fun _ => ⟨hin, _, fd38' hs, (fd38 hs).2, _, _, hh, fun _ => ⟨rfl, rfl⟩, fun c => absurd rfl c⟩, fun c => absurd (by rw [eq, q]) c⟩, fun c => absurd hn1 c⟩, fun c => absurd w2 c⟩⟩, t_X9_badRow ⟨hin, ?_⟩, fun c => absurd c (by decide)⟩
        rw [n_N (by omega), h3, h6]
        exact ⟨fun _ => ⟨hin, fun _ => ⟨hin, fun _ => ⟨rfl, rfl⟩, fun c => absurd c qi⟩, fun c => absurd (ell.mpr q) c⟩, fun c => absurd h0 c⟩
    · refine ⟨-12, t_X8_refusal ⟨fun c => absurd w1 c, fun _ => ⟨fun _ => ⟨hin, _, fd38' hs, (fd38 hs).2, fun _ => ⟨hin, _, fd38' hs, (fd38 hs).2, fun c => absurd (by rw [eq] at c; exact ell.mp c) q, fun _ => ⟨rfl, rfl⟩⟩, fun c => absurd hn1 c⟩, fun c => absurd w2 c⟩⟩, t_X9_badRow ⟨hin, ?_⟩, fun c => absurd c (by decide)⟩
      rw [n_N (by omega), h3]
      exact ⟨fun _ => ⟨hin, fun c => absurd (ell.mp c) q, fun _ => ⟨rfl, rfl⟩⟩, fun c => absurd h0 c⟩
def cut (l : Nat) (v : Int64) : Int64 := if l = 0 then v.toInt32.toInt8.toInt32.toInt64 else if l = 1 then v.toInt32.toInt16.toInt32.toInt64 else if l = 2 then v.toInt32.toInt64 else v
theorem x_put {s l i : Nat} {v : Int64} {σ : kS} (hs : k_sht s = true) (hl : l < 4) (h : σ.1 s 0 = nI l) (hi : i < 24) : R_X4_put s (nI i) v σ (k_sl σ (s + 1) i (cut l v)) := by
  have hin : vp_in (nI i) 24 := n_in hi (by decide)
  refine t_X4_put hs ?_
  rw [h, n_T (by omega), n_N (by omega)]
  unfold cut
  rcases (show l = 0 ∨ l = 1 ∨ l = 2 ∨ l = 3 by omega) with rfl | rfl | rfl | rfl
  · exact ⟨fun _ => ⟨hin, rfl⟩, fun c => absurd c (by decide), fun c => absurd c (by decide), fun c => absurd c (by decide)⟩
  · exact ⟨fun c => absurd c (by decide), fun _ => ⟨hin, rfl⟩, fun c => absurd c (by decide), fun c => absurd c (by decide)⟩
  · exact ⟨fun c => absurd c (by decide), fun c => absurd c (by decide), fun _ => ⟨hin, rfl⟩, fun c => absurd c (by decide)⟩
  · exact ⟨fun c => absurd c (by decide), fun c => absurd c (by decide), fun c => absurd c (by decide), fun _ => ⟨hin, rfl⟩⟩
theorem m_cut {l : Nat} {v : Int64} {μ : kS} (hl : l < 4) : R_X9_cutTo (nI l) v μ (cut l v) μ := by
  refine t_X9_cutTo ?_
  unfold cut
  rcases (show l = 0 ∨ l = 1 ∨ l = 2 ∨ l = 3 by omega) with rfl | rfl | rfl | rfl
  · exact ⟨fun c => absurd rfl c, fun _ => ⟨rfl, rfl⟩⟩
  · exact ⟨fun _ => ⟨fun c => absurd rfl c, fun _ => ⟨rfl, rfl⟩⟩, fun c => absurd c (by decide)⟩
  · exact ⟨fun _ => ⟨fun _ => ⟨fun c => absurd rfl c, fun _ => ⟨rfl, rfl⟩⟩, fun c => absurd c (by decide)⟩, fun c => absurd c (by decide)⟩
  · exact ⟨fun _ => ⟨fun _ => ⟨fun _ => ⟨rfl, rfl⟩, fun c => absurd c (by decide)⟩, fun c => absurd c (by decide)⟩, fun c => absurd c (by decide)⟩
/-- one item written on both sides -/
theorem I5_put {σ μ : kS} {s i : Nat} {w : Int64} (h : I5 σ μ) (hs : s < 4) (hi : i < 24) : I5 (k_sl σ (55 + 2 * s + 1) i w) (k_sl μ 3 (24 * s + i) w) := by
  intro t ht
  obtain ⟨e, g⟩ := h t ht
  refine ⟨e, ?_⟩
  rcases g with g | ⟨l, n, h1, h2, h3, h4, h6, h7⟩
  · exact Or.inl g
  · refine Or.inr ⟨l, n, h1, h2, h3, h4, h6, fun j hj => ?_⟩
    rw [s_l, s_l, if_pos rfl]
    by_cases q : t = s
    · subst q
      rw [if_pos (by omega)]
      by_cases q2 : j = i
      · rw [if_pos q2, if_pos (by omega)]
      · rw [if_neg q2, if_neg (by omega)]; exact h7 j hj
    · rw [if_neg (by omega), if_neg (by omega)]; exact h7 j hj
theorem n24 (s i : Nat) : (24 : Int32) * nI s + nI i = nI (24 * s + i) := by rw [show (24 : Int32) = nI 24 from rfl, pk_mul, nI_add]
theorem iv3 (a : Int32) : iv a 0 3 ↔ ∃ k, k < 4 ∧ a = nI k := c_iv a 3 (by decide)
theorem wn4 (a : Int32) : wn a 4 ↔ ∃ k, k < 4 ∧ a = nI k := c_wn a 4 (by decide)
theorem q_item {a b c : Int32} {v : Int64} {σ μ : kS} (h : Inv σ μ) : ∃ x τ ν, R_X8_item a b c v σ x τ ∧ R_X9_item a b c v μ x ν ∧ Inv τ ν := by
  obtain ⟨A, i1, i2, i3, i4, i5⟩ := id h
  by_cases qa : ∃ k, k < 4 ∧ a = nI k
  · by_cases qb : ∃ k, k < 4 ∧ b = nI k
    · obtain ⟨s, hs, rfl⟩ := id qa
      obtain ⟨l, hl, rfl⟩ := id qb
      obtain ⟨x, r1, r2, r3⟩ := p_ref (a3 := c) (a4 := 1) i5 hs hl
      have hin : vp_in (nI s) 4 := n_in hs (by decide)
      by_cases q0 : x = 0
      · obtain ⟨n, i, k, hn, rfl, ek, hik, e1, e2, e3⟩ := r3 q0
        have hk : k = 1 := by
          have hk31 : (1 : Int32).toInt = (nI k).toInt := by rw [ek]
          have hlt : k ≤ 24 := by omega
          rw [n_T (by omega), show (1 : Int32).toInt = 1 from rfl] at hk31
          omega
        have hi : i < 24 := by omega
        have p1 := x_put (v := v) (fd38 hs).2 hl e1 hi
        have f1 : fr LSh σ (k_sl σ (55 + 2 * s + 1) i (cut l v)) := fr_sl (ls_b hs)
        have f2 : fr [1, 2, 3] μ (k_sl μ 3 (24 * s + i) (cut l v)) := fr_sl (by decide)
        refine ⟨cut l v, k_sl σ (55 + 2 * s + 1) i (cut l v), k_sl μ 3 (24 * s + i) (cut l v), t_X8_item ⟨_, _, r1, fun _ => ⟨hin, _, fd38' hs, (fd38 hs).2, _, p1, hin, _, fd38' hs, (fd38 hs).2, n_in hi (by decide), ?_, rfl⟩, fun z => absurd q0 z⟩, t_X9_item ⟨fun z => absurd ((iv3 _).mpr qa) z, fun _ => ⟨fun _ => ⟨_, _, r2, fun _ => ?_, fun z => absurd q0 z⟩, fun z => absurd ((iv3 _).mpr qb) z⟩⟩, Inv_5 h f1 f2 (I5_put i5 hs hi)⟩
        · rw [n_N (by omega), s_l, if_pos rfl, if_pos rfl]
        · have hin2 : vp_in (nI (24 * s + i)) 96 := n_in (by omega) (by decide)
          have hv : ∀ w, (k_sl μ 3 (24 * s + i) w).2 3 (24 * s + i) = w := fun w => by rw [s_l, if_pos rfl, if_pos rfl]
          rw [n24, n_N (by omega), hv, hv, hv, hv]
          unfold cut
          rcases (show l = 0 ∨ l = 1 ∨ l = 2 ∨ l = 3 by omega) with rfl | rfl | rfl | rfl
          · exact ⟨fun c => absurd rfl c, fun _ => ⟨hin2, hin2, rfl, rfl⟩⟩
          · exact ⟨fun _ => ⟨fun c => absurd rfl c, fun _ => ⟨hin2, hin2, rfl, rfl⟩⟩, fun c => absurd c (by decide)⟩
          · exact ⟨fun _ => ⟨fun _ => ⟨fun c => absurd rfl c, fun _ => ⟨hin2, hin2, rfl, rfl⟩⟩, fun c => absurd c (by decide)⟩, fun c => absurd c (by decide)⟩
          · exact ⟨fun _ => ⟨fun _ => ⟨fun _ => ⟨hin2, hin2, rfl, rfl⟩, fun c => absurd c (by decide)⟩, fun c => absurd c (by decide)⟩, fun c => absurd c (by decide)⟩
      · exact ⟨x.toInt64, σ, μ, t_X8_item ⟨_, _, r1, fun z => absurd z q0, fun _ => ⟨rfl, rfl⟩⟩, t_X9_item ⟨fun z => absurd ((iv3 _).mpr qa) z, fun _ => ⟨fun _ => ⟨_, _, r2, fun z => absurd z q0, fun _ => ⟨rfl, rfl⟩⟩, fun z => absurd ((iv3 _).mpr qb) z⟩⟩, h⟩
    · exact ⟨-1, σ, μ, t_X8_item ⟨-1, σ, t_X8_refusal ⟨fun _ => ⟨rfl, rfl⟩, fun _ => ⟨fun z => absurd ((wn4 _).mp z) qb, fun _ => ⟨rfl, rfl⟩⟩⟩, fun z => absurd z (by decide), fun _ => ⟨rfl, rfl⟩⟩, t_X9_item ⟨fun _ => ⟨rfl, rfl⟩, fun _ => ⟨fun z => absurd ((iv3 _).mp z) qb, fun _ => ⟨rfl, rfl⟩⟩⟩, h⟩
  · exact ⟨-1, σ, μ, t_X8_item ⟨-1, σ, t_X8_refusal ⟨fun _ => ⟨rfl, rfl⟩, fun z => absurd ((wn4 _).mp z) qa⟩, fun z => absurd z (by decide), fun _ => ⟨rfl, rfl⟩⟩, t_X9_item ⟨fun _ => ⟨rfl, rfl⟩, fun z => absurd ((iv3 _).mp z) qa⟩, h⟩
theorem q_drop {a : Int32} {σ μ : kS} (h : Inv σ μ) : ∃ x τ ν, R_X8_drop a σ x τ ∧ R_X9_drop a μ x ν ∧ Inv τ ν := by
  obtain ⟨A, i1, i2, i3, i4, i5⟩ := id h
  by_cases qa : ∃ k, k < 4 ∧ a = nI k
  · obtain ⟨s, hs, rfl⟩ := id qa
    have hin : vp_in (nI s) 4 := n_in hs (by decide)
    obtain ⟨e, g⟩ := i5 s hs
    rcases g with g | ⟨l, n, h1, h2, h3, h4, h6, h7⟩
    · refine ⟨-11, σ, μ, t_X8_drop ⟨fun _ => ⟨hin, _, fd38' hs, (fd38 hs).2, fun c => absurd (e.trans g) c, fun _ => ⟨rfl, rfl⟩⟩, fun z => absurd ((wn4 _).mpr qa) z⟩, t_X9_drop ⟨fun _ => ⟨hin, ?_⟩, fun z => absurd ((iv3 _).mpr qa) z⟩, h⟩
      rw [n_N (by omega), g]
      exact ⟨fun c => absurd c (by decide), fun _ => ⟨rfl, rfl⟩⟩
    · have hn1 : ¬ σ.1 (55 + 2 * s) 0 = -1 := by rw [e, h3]; exact l_m1 h1
      have f1 : fr LSh σ (k_si (k_si σ (55 + 2 * s) 0 (-1)) (55 + 2 * s) 1 0) := fr_tr (fr_si (ls_a hs)) (fr_si (ls_a hs))
      have f2 : fr [1, 2, 3] μ (k_si μ 1 s (-1)) := fr_si (by decide)
      refine ⟨nI n, _, k_si μ 1 s (-1), t_X8_drop ⟨fun _ => ⟨hin, _, fd38' hs, (fd38 hs).2, fun _ => ⟨hin, _, fd38' hs, (fd38 hs).2, hin, _, fd38' hs, (fd38 hs).2, _, t_X4_end (fd38 hs).2 rfl, h4.symm, rfl⟩, fun c => absurd hn1 c⟩, fun z => absurd ((wn4 _).mpr qa) z⟩, t_X9_drop ⟨fun _ => ⟨hin, ?_⟩, fun z => absurd ((iv3 _).mpr qa) z⟩, Inv_5 h f1 f2 (fun t ht => ?_)⟩
      · rw [n_N (by omega), h3, h6]
        exact ⟨fun _ => ⟨hin, hin, rfl, rfl⟩, fun c => absurd (nI_pos' (by omega)) c⟩
      · obtain ⟨e', g'⟩ := i5 t ht
        by_cases q : t = s
        · subst q
          refine ⟨?_, Or.inl ?_⟩
          · simp [s_i]
          · simp [s_i]
        · have z1 : (k_si μ 1 s (-1)).1 1 t = μ.1 1 t := by rw [s_i, if_pos rfl, if_neg q]
          rw [k_si_o (by omega), k_si_o (by omega), z1, k_si_o (show 2 ≠ 1 by decide)]
          exact ⟨e', g'⟩
  · exact ⟨-1, σ, μ, t_X8_drop ⟨fun z => absurd ((wn4 _).mp z) qa, fun _ => ⟨rfl, rfl⟩⟩, t_X9_drop ⟨fun z => absurd ((iv3 _).mp z) qa, fun _ => ⟨rfl, rfl⟩⟩, h⟩
