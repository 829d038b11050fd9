/-! decades; images -/
theorem r_64 {s d : Nat} (hs : s < 2 ^ 63) (h0 : 0 < d) (hd : d < 2 ^ 31) : (lN s - lN s / (nI d).toInt64 * (nI d).toInt64).toInt32 = nI (s % d) := by
  rw [nI_l hd, pk_lRem hs h0 (by omega), lN_i]
theorem n_640 {d : Nat} (h0 : 0 < d) (hd : d < 2 ^ 31) : ¬ (nI d).toInt64 = 0 := by
  rw [nI_l hd, show (0 : Int64) = lN 0 from rfl, lN_eq hd (by decide)]; omega
def dsA (A : Nat → Nat) (s : Nat) : Nat → Nat := seA (tuA A (s % A 2) (s / 16 % 12)) (s / 256 % A 3) (s / 4096 % A 2)
theorem ds_ok {A : Nat → Nat} {s : Nat} (hW : WF A) (qt : 0 < A 1) : WF (dsA A s) ∧ sh A (dsA A s) ∧ dsA A s 0 = A 0 ∧ dsA A s 1 = A 1 := by
  have hc := wfc hW
  have hn : 0 < A 2 ∧ 0 < A 3 := by have := hW.2.2.1; omega
  have h1 : s % A 2 < A 2 := Nat.mod_lt _ hn.1
  have h2 : s / 256 % A 3 < A 3 := Nat.mod_lt _ hn.2
  have h3 : s / 4096 % A 2 < A 2 := Nat.mod_lt _ hn.1
  have h4 : s / 16 % 12 < 12 := Nat.mod_lt _ (by decide)
  have w := tu_wf hW h1 h4
  have to : ∀ j, j < 8 → tuA A (s % A 2) (s / 16 % 12) j = A j := fun j hj => by unfold tuA; rw [if_neg (by omega)]
  refine ⟨se_wf w (by rw [to 3 (by omega)]; exact h2) (Or.inl (by rw [to 2 (by omega)]; exact h3)), sh_tr (tu_sh hW) (se_sh w), ?_, ?_⟩
  · unfold dsA seA; rw [if_neg (by omega), to 0 (by omega)]
  · unfold dsA seA; rw [if_neg (by omega), to 1 (by omega)]
theorem x_disturb {v s : Nat} {σ : kS} {A : Nat → Nat} (hv : k_vly v = true) (h : vx v σ A) (hW : WF A) (qt : 0 < A 1) (hs : s < 2 ^ 31) : ∃ τ, R_X7_disturb v (lN s) σ τ ∧ vx v τ (dsA A s) ∧ fr [v + 2, v + 6] σ τ := by
  have hc := wfc hW
  have hn : 0 < A 2 ∧ 0 < A 3 := by have := hW.2.2.1; omega
  have h1 : s % A 2 < A 2 := Nat.mod_lt _ hn.1
  have h2 : s / 256 % A 3 < A 3 := Nat.mod_lt _ hn.2
  have h3 : s / 4096 % A 2 < A 2 := Nat.mod_lt _ hn.1
  have h4 : s / 16 % 12 < 12 := Nat.mod_lt _ (by decide)
  have t1 := x_turn hv h hW h1 h4
  have t2 := vx_turn (p := s / 16 % 12) h hW h1
  have w := tu_wf hW h1 h4
  have to : ∀ j, j < 8 → tuA A (s % A 2) (s / 16 % 12) j = A j := fun j hj => by unfold tuA; rw [if_neg (by omega)]
  have t3 := vx_send (p := s / 256 % A 3) (g := s / 4096 % A 2) t2 w (by rw [to 3 (by omega)]; exact h2)
  have ep : pI (s / 4096 % A 2) = nI (s / 4096 % A 2) := by unfold pI; rw [if_neg (by omega)]
  rw [ep] at t3
  refine ⟨_, t_X7_disturb hv ⟨fun _ => ?_, fun c => absurd ?_ c⟩, t3, fr_tr (fr_si (by simp)) (fr_si (by simp))⟩
  · rw [h.1.2.1]
    refine ⟨n_640 hn.1 (by omega), k_si σ (v + 2) (s % A 2) (nI (A (8 + s % A 2) ^^^ 2 ^ (s / 16 % 12))), ?_, ?_⟩
    · rw [r_64 (by omega) hn.1 (by omega), show (16 : Int64) = lN 16 from rfl, pk_lDiv (by omega) (by decide) (by decide), show (12 : Int64) = lN 12 from rfl, pk_lRem (by omega) (by decide) (by decide), lN_i]
      exact t1
    · rw [t2.1.2.1, t2.1.2.2.1, to 2 (by omega), to 3 (by omega), show (256 : Int64) = lN 256 from rfl, show (4096 : Int64) = lN 4096 from rfl, pk_lDiv (by omega) (by decide) (by decide), pk_lDiv (by omega) (by decide) (by decide), r_64 (by omega) hn.1 (by omega), r_64 (by omega) hn.2 (by omega), n_N (by omega)]
      exact ⟨n_640 hn.2 (by omega), n_640 hn.1 (by omega), n_in (by omega) (by decide), rfl⟩
  · rw [h.1.2.1, h.1.2.2.1, show (0 : Int32) = nI 0 from rfl, n_lt (by decide) (by omega), n_lt (by decide) (by omega)]; exact hn
def dX (s : Nat) : Nat → Nat
  | 0 => s
  | i + 1 => 16807 * dX s i % 2147483647
theorem dX_lt {s : Nat} (hs : s < 2147483647) : ∀ i, dX s i < 2147483647
  | 0 => hs
  | i + 1 => Nat.mod_lt _ (by decide)
def dA (A : Nat → Nat) (s : Nat) : Nat → Nat → Nat
  | 0 => A
  | i + 1 => hrA (dsA (dA A s i) (dX s (i + 1)))
def dS (A : Nat → Nat) (s : Nat) : Nat → Nat
  | 0 => 0
  | i + 1 => dS A s i + pop (fuA (dsA (dA A s i) (dX s (i + 1))))
theorem dA_ok {A : Nat → Nat} {s : Nat} (hW : WF A) (h0 : A 0 ≤ 9999) (qt : 0 < A 1) : ∀ i, i ≤ 100 → WF (dA A s i) ∧ dA A s i 0 = A 0 + i ∧ sh A (dA A s i)
  | 0, _ => ⟨hW, rfl, sh_rf⟩
  | i + 1, hi => by
    obtain ⟨a, b, c⟩ := dA_ok hW h0 qt i (by omega)
    obtain ⟨d1, d2, d3, d4⟩ := ds_ok (s := dX s (i + 1)) a (by rw [← c.1]; exact qt)
    refine ⟨hrA_wf d1 (by omega), ?_, sh_tr c (sh_tr d2 (sh_hr d1))⟩
    show hrA (dsA (dA A s i) (dX s (i + 1))) 0 = _
    unfold hrA; rw [if_pos rfl, d3, b]; omega
theorem sc_d : ∀ k, k ∈ [11 + 2, 11 + 6] → k ∈ scX := by decide
theorem lXa {s i : Nat} (h : s < 2147483647) : ((16807 : Int64) * lN (dX s i)) - ((16807 : Int64) * lN (dX s i)) / (2147483647 : Int64) * (2147483647 : Int64) = lN (dX s (i + 1)) := by
  have := dX_lt h i
  rw [show (16807 : Int64) = lN 16807 from rfl, lN_mul, show (2147483647 : Int64) = lN 2147483647 from rfl, pk_lRem (by omega) (by decide) (by decide)]; rfl
theorem lXb {s i : Nat} (h : s < 2147483647) : (lN (dX s i) * (16807 : Int64)) - (lN (dX s i) * (16807 : Int64)) / (2147483647 : Int64) * (2147483647 : Int64) = lN (dX s (i + 1)) := by
  rw [Int64.mul_comm]; exact lXa h
theorem q_decades {a b c : Int32} {σ μ : kS} (h : Inv σ μ) : ∃ x τ ν, R_X8_decades a b c σ x τ ∧ R_X9_decades a b c μ x ν ∧ Inv τ ν := by
  obtain ⟨A, i1, -⟩ := id h
  have hc := wfc i1.1
  have ec := c_wn c 2 (by decide)
  have fc := c_iv c 1 (by decide)
  have ea := c_iv a 60 (by decide)
  by_cases qa : iv a 0 60
  · have a1 : ¬ a < 0 ∧ ¬ (60 : Int32) < a := by unfold iv at qa; rw [lt_I, lt_I]; exact ⟨by omega, by omega⟩
    by_cases qb : iv b 1 999999
    · have b1 : ¬ b < 1 ∧ ¬ (999999 : Int32) < b := by unfold iv at qb; rw [lt_I, lt_I]; exact ⟨by omega, by omega⟩
      by_cases qc : ∃ k, k < 2 ∧ c = nI k
      · by_cases qt : 0 < A 1
        · obtain ⟨n, hn, rfl⟩ := ea.mp qa
          have hb : ∃ s, s < 1000000 ∧ b = nI s := by
            unfold iv at qb
            rw [show (1 : Int32).toInt = 1 from rfl, show (999999 : Int32).toInt = 999999 from rfl] at qb
            refine ⟨b.toInt.toNat, by omega, ?_⟩
            apply Int32.toInt_inj.mp
            rw [n_T (by omega)]; omega
          obtain ⟨s, hs, rfl⟩ := hb
          obtain ⟨w, hw, rfl⟩ := id qc
          have hT := i1.2.2.2.2 qt
          have h2 : ∀ k, k < 2 ^ 31 → (nI w = nI k ↔ w = k) := fun k hk => nI_eq (by omega) hk
          have hs1 : s < 2147483647 := by omega
          have kx : ∀ i, i ≤ n → ∀ σ', fr scX σ σ' → vx 11 σ' (dA A s i) → ∃ τ, E_X8_decades_65 (nI n) (nI w) (lN (dX s i)) (nI (dS A s i)) (nI i) σ' (if w = 0 then nI (dS A s n) else nI (trd (dA A s n))) τ ∧ fr scX σ τ := by
            refine loop_up n (fun σ' g gx => ?_) (fun i hi ih σ' g gx => ?_)
            · refine ⟨σ', t_X8_decades_65 ⟨fun _ => ⟨fun c => ⟨_, _, x_tired (v := 11) rfl gx (dA_ok i1.1 i1.2.1 qt n (by omega)).1, ?_, rfl⟩, fun c => ⟨?_, rfl⟩⟩, fun c => absurd (Int32.le_refl _) c⟩, g⟩
              · rw [if_neg (fun z => c (by rw [z]; rfl))]
              · rw [if_pos ((h2 0 (by decide)).mp c)]
            · obtain ⟨w1, w2, w3⟩ := dA_ok (s := s) i1.1 i1.2.1 qt i (by omega)
              have qi : 0 < dA A s i 1 := by rw [← w3.1]; exact qt
              have hl := dX_lt hs1 (i + 1)
              obtain ⟨d1, d2, d3, d4⟩ := ds_ok (s := dX s (i + 1)) w1 qi
              obtain ⟨σ1, e1, e2, e3⟩ := x_disturb (v := 11) rfl gx w1 qi (s := dX s (i + 1)) (by omega)
              have g1 := fr_tr g (fr_mo e3 sc_d)
              have hT1 : CT σ1 (dsA (dA A s i) (dX s (i + 1))) := CT_sh (sh_tr w3 d2) (CT_o hT (g1 25 (by decide)).1 (g1 26 (by decide)).1)
              obtain ⟨σ2, p1, p2, p3⟩ := x_passHour (v := 11) rfl e2 hT1 d1 (by have := i1.2.1; omega)
              obtain ⟨τ, j1, j2⟩ := ih σ2 (fr_tr g1 (fr_mo p3 sc_h)) p2
              refine ⟨τ, t_X8_decades_65 ⟨fun c => absurd ((n_le (by omega) (by omega)).mp c) (by omega), fun _ => ?_⟩, j2⟩
              rw [lXa hs1]
              refine ⟨σ1, e1, _, σ2, p1, _, σ2, x_bits (by have := fuA_lt d1; omega), ?_⟩
              rw [n_inc, nI_add]; exact j1
          have km : ∀ i, i ≤ n → ∀ μ', fr [7, 11] μ μ' → mr 7 μ' (dA A s i) → ∃ ν, E_X9_decades_55 (nI n) (nI w) (lN (dX s i)) (nI (dS A s i)) (nI i) μ' (if w = 0 then nI (dS A s n) else nI (trd (dA A s n))) ν ∧ fr [7, 11] μ ν := by
            refine loop_up n (fun μ' g gx => ?_) (fun i hi ih μ' g gx => ?_)
            · refine ⟨μ', t_X9_decades_55 ⟨fun _ => ⟨fun c => ⟨_, _, m_tiredOf (r := 7) rfl gx (dA_ok i1.1 i1.2.1 qt n (by omega)).1, ?_, rfl⟩, fun c => ⟨?_, rfl⟩⟩, fun c => absurd (Int32.le_refl _) c⟩, g⟩
              · rw [if_neg (fun z => c (by rw [z]; rfl))]
              · rw [if_pos ((h2 0 (by decide)).mp c)]
            · obtain ⟨w1, w2, w3⟩ := dA_ok (s := s) i1.1 i1.2.1 qt i (by omega)
              have wc := wfc w1
              have qi : 0 < dA A s i 1 := by rw [← w3.1]; exact qt
              have hn2 : 0 < dA A s i 2 ∧ 0 < dA A s i 3 := by have := w1.2.2.1; omega
              have hl := dX_lt hs1 (i + 1)
              obtain ⟨d1, d2, d3, d4⟩ := ds_ok (s := dX s (i + 1)) w1 qi
              have h1 : dX s (i + 1) % dA A s i 2 < dA A s i 2 := Nat.mod_lt _ hn2.1
              have h2 : dX s (i + 1) / 256 % dA A s i 3 < dA A s i 3 := Nat.mod_lt _ hn2.2
              have h3 : dX s (i + 1) / 4096 % dA A s i 2 < dA A s i 2 := Nat.mod_lt _ hn2.1
              have h4 : dX s (i + 1) / 16 % 12 < 12 := Nat.mod_lt _ (by decide)
              have t1 := m_turn (r := 7) rfl gx w1 h1 h4
              have t2 := mr_turn (p := dX s (i + 1) / 16 % 12) gx w1 h1
              have to : ∀ j, j < 8 → tuA (dA A s i) (dX s (i + 1) % dA A s i 2) (dX s (i + 1) / 16 % 12) j = dA A s i j := fun j hj => by unfold tuA; rw [if_neg (by omega)]
              have t3 : mr 7 _ (dsA (dA A s i) (dX s (i + 1))) := mr_send (p := dX s (i + 1) / 256 % dA A s i 3) (g := dX s (i + 1) / 4096 % dA A s i 2) t2 (by omega)
              obtain ⟨μ2, p1, p2, p3⟩ := m_hourIn (r := 7) rfl (by decide) t3 d1 (by have := i1.2.1; omega)
              obtain ⟨ν, j1, j2⟩ := ih μ2 (fr_tr g (fr_tr (fr_tr (fr_si (by simp)) (fr_si (by simp))) (fr_mo p3 (by decide)))) p2
              refine ⟨ν, t_X9_decades_55 ⟨fun c => absurd ((n_le (by omega) (by omega)).mp c) (by omega), fun _ => ?_⟩, j2⟩
              rw [lXb hs1, mr_n gx (by decide), show (16 : Int64) = lN 16 from rfl, pk_lDiv (by omega) (by decide) (by decide), show (12 : Int64) = lN 12 from rfl, pk_lRem (by omega) (by decide) (by decide), lN_i, r_64 (by omega) hn2.1 (by omega), show (256 : Int64) = lN 256 from rfl, show (4096 : Int64) = lN 4096 from rfl, pk_lDiv (by omega) (by decide) (by decide), pk_lDiv (by omega) (by decide) (by decide)]
              refine ⟨n_640 hn2.1 (by omega), _, t1, ?_⟩
              rw [mr_n t2 (by decide), mr_n t2 (by decide), to 2 (by omega), to 3 (by omega), r_64 (by omega) hn2.1 (by omega), r_64 (by omega) hn2.2 (by omega), show (33 : Int32) = nI 33 from rfl, nI_add, n_N (by omega)]
              refine ⟨n_640 hn2.2 (by omega), n_640 hn2.1 (by omega), n_in (by omega) (by decide), _, μ2, p1, _, μ2, m_bits (by have := fuA_lt d1; omega), ?_⟩
              rw [n_inc, nI_add]; exact j1
          obtain ⟨σ1, b1', b2, b3⟩ := x_become (v := 11) (w := 3) rfl rfl (by decide) i1.2.2.1 i1.1
          obtain ⟨g1, g2, g3⟩ := m_begin i1.2.2.2.1
          obtain ⟨τ, x1, x2⟩ := kx 0 (Nat.zero_le _) σ1 (fr_mo b3 sc_b) b2
          obtain ⟨ν, m1, m2⟩ := km 0 (Nat.zero_le _) _ (fr_mo g3 (by decide)) g2
          have el : (nI s).toInt64 = lN s := nI_l (by omega)
          refine ⟨if w = 0 then nI (dS A s n) else nI (trd (dA A s n)), τ, ν, t_X8_decades ⟨fun c => absurd c a1.1, fun _ => ⟨fun c => absurd c a1.2, fun _ => ⟨fun c => absurd c b1.1, fun _ => ⟨fun c => absurd c b1.2, fun _ => ⟨fun _ => ⟨fun _ => ⟨_, b1', ?_⟩, fun c => absurd ((I1_th i1).mpr qt) c⟩, fun c => absurd (ec.mpr qc) c⟩⟩⟩⟩⟩, t_X9_decades ⟨fun c => absurd qa c, fun _ => ⟨fun c => absurd qb c, fun _ => ⟨fun _ => ⟨fun _ => ⟨_, g1, ?_⟩, fun c => absurd ((I1_tm i1).mpr qt) c⟩, fun c => absurd (fc.mpr qc) c⟩⟩⟩, Inv_sc h x2 m2 (by decide)⟩
          · rw [el]; exact x1
          · rw [el]; exact m1
        · exact ⟨-2, σ, μ, t_X8_decades ⟨fun c => absurd c a1.1, fun _ => ⟨fun c => absurd c a1.2, fun _ => ⟨fun c => absurd c b1.1, fun _ => ⟨fun c => absurd c b1.2, fun _ => ⟨fun _ => ⟨fun c => absurd ((I1_th i1).mp c) qt, fun _ => ⟨rfl, rfl⟩⟩, fun c => absurd (ec.mpr qc) c⟩⟩⟩⟩⟩, t_X9_decades ⟨fun c => absurd qa c, fun _ => ⟨fun c => absurd qb c, fun _ => ⟨fun _ => ⟨fun c => absurd ((I1_tm i1).mp c) qt, fun _ => ⟨rfl, rfl⟩⟩, fun c => absurd (fc.mpr qc) c⟩⟩⟩, h⟩
      · exact ⟨-1, σ, μ, t_X8_decades ⟨fun c => absurd c a1.1, fun _ => ⟨fun c => absurd c a1.2, fun _ => ⟨fun c => absurd c b1.1, fun _ => ⟨fun c => absurd c b1.2, fun _ => ⟨fun c => absurd (ec.mp c) qc, fun _ => ⟨rfl, rfl⟩⟩⟩⟩⟩⟩, t_X9_decades ⟨fun c => absurd qa c, fun _ => ⟨fun c => absurd qb c, fun _ => ⟨fun c => absurd (fc.mp c) qc, fun _ => ⟨rfl, rfl⟩⟩⟩⟩, h⟩
    · have b1 : ¬ b < 1 → (999999 : Int32) < b := by
        intro z
        rw [lt_I] at z ⊢
        apply Int.not_le.mp
        intro z2; exact qb ⟨by omega, z2⟩
      refine ⟨-1, σ, μ, t_X8_decades ⟨fun c => absurd c a1.1, fun _ => ⟨fun c => absurd c a1.2, fun _ => ⟨fun _ => ⟨rfl, rfl⟩, fun z => ⟨fun _ => ⟨rfl, rfl⟩, fun z2 => absurd (b1 z) z2⟩⟩⟩⟩, t_X9_decades ⟨fun c => absurd qa c, fun _ => ⟨fun _ => ⟨rfl, rfl⟩, fun c => absurd c qb⟩⟩, h⟩
  · have a1 : ¬ a < 0 → (60 : Int32) < a := by
      intro z
      rw [lt_I] at z ⊢
      apply Int.not_le.mp
      intro z2; exact qa ⟨by omega, z2⟩
    exact ⟨-1, σ, μ, t_X8_decades ⟨fun _ => ⟨rfl, rfl⟩, fun z => ⟨fun _ => ⟨rfl, rfl⟩, fun z2 => absurd (a1 z) z2⟩⟩, t_X9_decades ⟨fun _ => ⟨rfl, rfl⟩, fun c => absurd c qa⟩, h⟩
/-! images -/
theorem fd19 {k : Nat} (hk : k < 2) : k_fd SX 19 k = some (some (39 + 8 * k)) ∧ k_vly (39 + 8 * k) = true := by
  rcases (show k = 0 ∨ k = 1 by omega) with rfl | rfl <;> exact ⟨rfl, rfl⟩
theorem q_image {a : Int32} {σ μ : kS} (h : Inv σ μ) : ∃ x τ ν, R_X8_image a σ x τ ∧ R_X9_image a μ x ν ∧ Inv τ ν := by
  obtain ⟨A, i1, i2, i3, i4, i5⟩ := id h
  have hc := wfc i1.1
  have ea := c_wn a 2 (by decide)
  have fa := c_iv a 1 (by decide)
  by_cases qa : ∃ k, k < 2 ∧ a = nI k
  · by_cases qt : 0 < A 1
    · obtain ⟨k, hk, rfl⟩ := id qa
      obtain ⟨τ, b1, b2, b3⟩ := x_become (v := 39 + 8 * k) (w := 3) (fd19 hk).2 rfl (by omega) i1.2.2.1 i1.1
      have b3' : ∀ c, (c < 39 + 8 * k ∨ 47 + 8 * k ≤ c) → τ.1 c = σ.1 c ∧ τ.2 c = σ.2 c := fun c hc => b3 c (by simp [vl8]; omega)
      have c1 := m_bring (r0 := 5) (n0 := 38) (r2 := 8) (n2 := 76) (i := 0) (j := 38 * k) (n := 38) (σ := μ) rfl rfl (by decide) (by omega) (by decide) (by decide) (Or.inl (by decide))
      have f2 : fr [8, 9] μ (k_si (k_cp μ 5 8 0 (38 * k) 38) 9 k 1) := fr_tr (fr_cp (by simp)) (fr_si (by simp))
      refine ⟨nI (A 0), τ, k_si (k_cp μ 5 8 0 (38 * k) 38) 9 k 1, t_X8_image ⟨fun _ => ⟨fun _ => ⟨n_in hk (by decide), 39 + 8 * k, ?_, (fd19 hk).2, τ, b1, ?_, rfl⟩, fun c => absurd ((I1_th i1).mpr qt) c⟩, fun c => absurd (ea.mpr qa) c⟩, t_X9_image ⟨fun _ => ⟨fun _ => ⟨_, by rw [show (38 : Int32) * nI k = nI (38 * k) from pk_mul 38 k]; exact c1, n_in hk (by decide), ?_, ?_⟩, fun c => absurd ((I1_tm i1).mpr qt) c⟩, fun c => absurd (fa.mpr qa) c⟩, ?_⟩
      · rw [n_N (by omega)]; exact (fd19 hk).1
      · rw [(b3' 3 (by omega)).1]; exact i1.2.2.1.1.2.2.2.symm
      · rw [k_cp_o (by decide)]; exact (mr_n i1.2.2.2.1 (by decide)).symm
      · rw [n_N (by omega)]; rfl
      · refine ⟨A, I1_kp i1 (fun c hc => (b3' c (by omega)).1) (f2 5 (by decide)).1, I2_kp i2 (by rw [(b3' 1 (by omega)).1]) (b3' 2 (by omega)).1 (by rw [(f2 0 (by decide)).1]) (f2 4 (by decide)).1, fun j hj => ?_, I4_kp i4 (fun c p q => (b3' c (by omega)).1) (by rw [(f2 0 (by decide)).1]) (f2 10 (by decide)).1, I5_kp i5 (fun c p q => b3' c (by omega)) (f2 1 (by decide)).1 (f2 2 (by decide)).1 (f2 3 (by decide)).2⟩
        by_cases e : j = k
        · subst e
          refine Or.inr ⟨k_si_at, A, i1.1, i1.2.1, qt, b2, fun i hi => ?_⟩
          rw [k_si_o (by decide), cpA, if_pos rfl, if_pos (by omega)]
          have := i1.2.2.2.1 i hi
          rw [← this]; exact congrArg _ (by omega)
        · have e9 : (k_si (k_cp μ 5 8 0 (38 * k) 38) 9 k 1).1 9 j = μ.1 9 j := by rw [s_i, if_pos rfl, if_neg e, k_cp_o (by decide)]
          rw [e9]
          rcases i3 j hj with ⟨z1, z2⟩ | ⟨z1, B, y1, y2, y3, y4, y5⟩
          · exact Or.inl ⟨z1, by rw [(b3' _ (by omega)).1]; exact z2⟩
          · refine Or.inr ⟨z1, B, y1, y2, y3, vx_kp y4 (fun c p q => (b3' c (by omega)).1), fun i hi => ?_⟩
            rw [k_si_o (by decide), cpA, if_pos rfl, if_neg (by omega)]
            exact y5 i hi
    · exact ⟨-2, σ, μ, t_X8_image ⟨fun _ => ⟨fun c => absurd ((I1_th i1).mp c) qt, fun _ => ⟨rfl, rfl⟩⟩, fun c => absurd (ea.mpr qa) c⟩, t_X9_image ⟨fun _ => ⟨fun c => absurd ((I1_tm i1).mp c) qt, fun _ => ⟨rfl, rfl⟩⟩, fun c => absurd (fa.mpr qa) c⟩, h⟩
  · exact ⟨-1, σ, μ, t_X8_image ⟨fun c => absurd (ea.mp c) qa, fun _ => ⟨rfl, rfl⟩⟩, t_X9_image ⟨fun c => absurd (fa.mp c) qa, fun _ => ⟨rfl, rfl⟩⟩, h⟩
theorem x_begin {v : Nat} {σ : kS} {B : Nat → Nat} (hv : k_vly v = true) (hne : 3 ≠ v) (h : vx v σ B) (hW : WF B) : ∃ τ, R_X8_begin v σ τ ∧ vx 3 τ B ∧ CT τ B ∧ τ.1 20 0 = 0 ∧ τ.1 20 1 = 0 ∧ fr [3, 4, 5, 6, 7, 8, 9, 10, 20, 25, 26] σ τ := by
  obtain ⟨s1, a1, a2, a3⟩ := x_become (v := 3) rfl hv hne h hW
  obtain ⟨s2, b1, b2, b3⟩ := x_learn hW a2
  have f3 : fr [20] s2 (k_si (k_si s2 20 0 0) 20 1 0) := fr_tr (fr_si (by simp)) (fr_si (by simp))
  refine ⟨_, t_X8_begin hv ⟨s1, a1, s2, b1, _, t_X0_forget rfl, rfl⟩, ?_, ?_, ?_, k_si_at, fr_tr (fr_tr (fr_mo a3 (by decide)) (fr_mo b2 (by decide))) (fr_mo f3 (by decide))⟩
  · exact vx_kp a2 (fun k p q => by rw [(f3 k (by simp; omega)).1, (b2 k (by simp; omega)).1])
  · exact CT_o b3 (f3 25 (by decide)).1 (f3 26 (by decide)).1
  · simp [s_i]
theorem Inv_n {B : Nat → Nat} {σ μ τ ν : kS} (i3 : I3 σ μ) (i5 : I5 σ μ) (hW : WF B) (h0 : B 0 ≤ 9999) (hx : vx 3 τ B) (hT : CT τ B) (hm : mr 5 ν B) (z1 : τ.1 20 0 = 0) (z2 : τ.1 20 1 = 0) (z3 : ν.1 0 12 = 0) (i2 : I2 τ ν)
    (f1 : fr [1, 3, 4, 5, 6, 7, 8, 9, 10, 11, 12, 13, 14, 15, 16, 17, 18, 20, 25, 26] σ τ) (f2 : fr [0, 5, 6] μ ν) : Inv τ ν := by
  have g1 : ∀ k, k ∉ [1, 3, 4, 5, 6, 7, 8, 9, 10, 11, 12, 13, 14, 15, 16, 17, 18, 20, 25, 26] → τ.1 k = σ.1 k ∧ τ.2 k = σ.2 k := f1
  exact ⟨B, ⟨hW, h0, hx, hm, fun _ => hT⟩, i2, I3_kp i3 (fun k a b => (g1 k (by simp; omega)).1) (f2 8 (by decide)).1 (f2 9 (by decide)).1, ⟨0, 0, fun _ => B, by decide, by decide, z1, z2, z3, rfl, fun c => absurd c (by decide), fun j hj => absurd hj (by omega)⟩, I5_kp i5 (fun k a b => g1 k (by simp; omega)) (f2 1 (by decide)).1 (f2 2 (by decide)).1 (f2 3 (by decide)).2⟩
theorem q_restore {a : Int32} {σ μ : kS} (h : Inv σ μ) : ∃ x τ ν, R_X8_restore a σ x τ ∧ R_X9_restore a μ x ν ∧ Inv τ ν := by
  obtain ⟨A, i1, i2, i3, i4, i5⟩ := id h
  have ea := c_wn a 2 (by decide)
  have fa := c_iv a 1 (by decide)
  by_cases qa : ∃ k, k < 2 ∧ a = nI k
  · obtain ⟨k, hk, rfl⟩ := id qa
    have hfd : k_fd SX 19 (nI k).toNatClampNeg = some (some (39 + 8 * k)) := by rw [n_N (by omega)]; exact (fd19 hk).1
    rcases i3 k hk with ⟨z1, z2⟩ | ⟨z1, B, y1, y2, y3, y4, y5⟩
    · refine ⟨-2, σ, μ, t_X8_restore ⟨fun _ => ⟨n_in hk (by decide), _, hfd, (fd19 hk).2, fun c => absurd c.1 ?_, fun _ => ⟨rfl, rfl⟩⟩, fun c => absurd (ea.mpr qa) c⟩, t_X9_restore ⟨fun _ => ⟨n_in hk (by decide), ?_⟩, fun c => absurd (fa.mpr qa) c⟩, h⟩
      · rw [z2]; decide
      · rw [n_N (by omega)]
        exact ⟨fun c => absurd z1 c, fun _ => ⟨rfl, rfl⟩⟩
    · have hc := wfc y1
      obtain ⟨τ, b1, b2, b3, b4, b5, b6⟩ := x_begin (fd19 hk).2 (by omega) y4 y1
      have c1 := m_bring (r0 := 8) (n0 := 76) (r2 := 5) (n2 := 38) (i := 38 * k) (j := 0) (n := 38) (σ := μ) rfl rfl (by omega) (by decide) (by decide) (by decide) (Or.inl (by decide))
      have f2 : fr [0, 5] μ (k_si (k_cp μ 8 5 (38 * k) 0 38) 0 12 0) := fr_tr (fr_cp (by simp)) (fr_si (by simp))
      have hm : mr 5 (k_si (k_cp μ 8 5 (38 * k) 0 38) 0 12 0) B := fun i hi => by
        rw [k_si_o (by decide), cpA, if_pos rfl, if_pos (by omega)]
        exact y5 i hi
      refine ⟨nI (B 0), τ, k_si (k_cp μ 8 5 (38 * k) 0 38) 0 12 0, t_X8_restore ⟨fun _ => ⟨n_in hk (by decide), _, hfd, (fd19 hk).2, fun _ => ⟨n_in hk (by decide), _, hfd, (fd19 hk).2, τ, b1, b2.1.2.2.2.symm, rfl⟩, fun c => absurd ?_ c⟩, fun c => absurd (ea.mpr qa) c⟩, t_X9_restore ⟨fun _ => ⟨n_in hk (by decide), ?_⟩, fun c => absurd (fa.mpr qa) c⟩, ?_⟩
      · have := y1.2.2.1
        rw [y4.1.2.1, y4.1.2.2.1, show (0 : Int32) = nI 0 from rfl, n_lt (by decide) (by omega), n_lt (by decide) (by omega)]; omega
      · rw [n_N (by omega), z1]
        refine ⟨fun _ => ⟨_, by rw [show (38 : Int32) * nI k = nI (38 * k) from pk_mul 38 k]; exact c1, ?_, rfl⟩, fun c => absurd c (by decide)⟩
        have := mr_n hm (i := 0) (by decide)
        rw [k_si_o (by decide)] at this
        exact this.symm
      · refine Inv_n i3 i5 y1 y2 b2 b3 hm b4 b5 k_si_at ?_ (fr_mo b6 (by decide)) (fr_mo f2 (by decide))
        refine I2_kp i2 (by rw [(b6 1 (by decide)).1]) (b6 2 (by decide)).1 ?_ (f2 4 (by decide)).1
        simp [cpA, s_i]
  · exact ⟨-1, σ, μ, t_X8_restore ⟨fun c => absurd (ea.mp c) qa, fun _ => ⟨rfl, rfl⟩⟩, t_X9_restore ⟨fun c => absurd (fa.mp c) qa, fun _ => ⟨rfl, rfl⟩⟩, h⟩
