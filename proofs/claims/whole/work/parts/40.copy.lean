/-! a sheet is begun; items copied; the night logged -/
theorem q_sheet {a b c : Int32} {σ μ : kS} (h : Inv σ μ) : ∃ x τ ν, R_X8_sheet a b c σ x τ ∧ R_X9_sheet a b c μ x ν ∧ Inv τ ν := by
  obtain ⟨A, i1, i2, i3, i4, i5⟩ := id h
  by_cases qa : ∃ k, k < 4 ∧ a = nI k
  · by_cases qb : ∃ k, k < 4 ∧ b = nI k
    · by_cases q1 : c ≤ 24
      · by_cases q2 : 0 ≤ c
        · obtain ⟨n, hn, rfl⟩ := nI_of2 (M := 24) (n := 24) rfl (fun z => by rw [lt_I, i_0] at z; rw [le_I, i_0] at q2; omega) q1
          obtain ⟨s, hs, rfl⟩ := id qa
          obtain ⟨l, hl, rfl⟩ := id qb
          have hin : vp_in (nI s) 4 := n_in hs (by decide)
          let s0 : kS := k_si (k_si σ (55 + 2 * s) 0 (nI l)) (55 + 2 * s) 1 (nI n)
          let m0 : kS := k_si (k_si μ 1 s (nI l)) 2 s (nI n)
          have x1 : R_X4_begin (55 + 2 * s) (nI l) (nI n) σ (k_fg s0 (55 + 2 * s + 1) 24 0) := by
            refine t_X4_begin (fd38 hs).2 ⟨_, x_fillg ?_ (by decide), rfl⟩
            rcases (show s = 0 ∨ s = 1 ∨ s = 2 ∨ s = 3 by omega) with rfl | rfl | rfl | rfl <;> rfl
          have key : ∀ i, i ≤ 24 → ∀ μ', fr [3] m0 μ' → (∀ j, j < 96 → μ'.2 3 j = if 24 * s ≤ j ∧ j < 24 * s + i then 0 else μ.2 3 j) → ∃ ν, E_X9_sheet_48 (nI s) (nI n) (nI i) μ' (nI n) ν ∧ fr [3] m0 ν ∧ ∀ j, j < 96 → ν.2 3 j = if 24 * s ≤ j ∧ j < 24 * s + 24 then 0 else μ.2 3 j := by
            refine loop_up 24 (fun μ' g k => ?_) (fun i hi ih μ' g k => ?_)
            · exact ⟨μ', t_X9_sheet_48 ⟨fun _ => ⟨rfl, rfl⟩, fun z => absurd (Int32.le_refl _) z⟩, g, k⟩
            · obtain ⟨ν, r1, r2, r3⟩ := ih (k_sl μ' 3 (24 * s + i) 0) (fr_tr g (fr_sl (by decide))) (fun j hj => by
                rw [s_l, if_pos rfl]
                by_cases q : j = 24 * s + i
                · rw [if_pos q, if_pos (by omega)]
                · rw [if_neg q, k j hj]
                  by_cases q2 : 24 * s ≤ j ∧ j < 24 * s + i
                  · rw [if_pos q2, if_pos (by omega)]
                  · rw [if_neg q2, if_neg (by omega)])
              refine ⟨ν, t_X9_sheet_48 ⟨fun z => absurd z (nI_ge (b := 24) hi (by decide)), fun _ => ?_⟩, r2, r3⟩
              rw [n24, n_N (by omega), n_inc]
              exact ⟨n_in (by omega) (by decide), r1⟩
          obtain ⟨ν, r1, r2, r3⟩ := key 0 (by decide) m0 fr_rf (fun j hj => by rw [if_neg (by omega)]; rfl)
          have f1 : fr LSh σ (k_fg s0 (55 + 2 * s + 1) 24 0) := fr_tr (fr_tr (fr_si (ls_a hs)) (fr_si (ls_a hs))) (fr_fg (ls_b hs))
          have f2 : fr [1, 2, 3] μ ν := fr_tr (fr_tr (fr_si (by decide)) (fr_si (by decide))) (fr_mo r2 (by decide))
          refine ⟨nI n, _, ν, t_X8_sheet ⟨fun z => absurd ((wn4 _).mpr qa) z, fun _ => ⟨fun z => absurd ((wn4 _).mpr qb) z, fun _ => ⟨fun _ => ⟨fun _ => ⟨hin, _, fd38' hs, (fd38 hs).2, _, x1, rfl, rfl⟩, fun z => absurd q2 z⟩, fun z => absurd q1 z⟩⟩⟩, t_X9_sheet ⟨fun z => absurd ((iv3 _).mpr qa) z, fun _ => ⟨fun z => absurd ((iv3 _).mpr qb) z, fun _ => ⟨fun _ => ⟨fun _ => ⟨hin, hin, ?_⟩, fun z => absurd q2 z⟩, fun z => absurd q1 z⟩⟩⟩, Inv_5 h f1 f2 (fun t ht => ?_)⟩
          · rw [n_N (by omega)]; exact r1
          · obtain ⟨e', g'⟩ := i5 t ht
            have v1 : ν.1 1 t = if t = s then nI l else μ.1 1 t := by rw [(r2 1 (by decide)).1, k_si_o (by decide), s_i, if_pos rfl]
            have v2 : ν.1 2 t = if t = s then nI n else μ.1 2 t := by rw [(r2 2 (by decide)).1, s_i, if_pos rfl, k_si_o (by decide)]
            have u1 : ∀ j, (k_fg s0 (55 + 2 * s + 1) 24 0).1 (55 + 2 * t) j = if t = s then (if j = 1 then nI n else if j = 0 then nI l else σ.1 (55 + 2 * t) j) else σ.1 (55 + 2 * t) j := fun j => by
              show (k_si (k_si σ (55 + 2 * s) 0 (nI l)) (55 + 2 * s) 1 (nI n)).1 (55 + 2 * t) j = _
              by_cases q : t = s
              · rw [if_pos q, q, s_i, if_pos rfl, s_i, if_pos rfl]
              · rw [if_neg q, k_si_o (by omega), k_si_o (by omega)]
            have u2 : ∀ j, j < 24 → (k_fg s0 (55 + 2 * s + 1) 24 0).2 (56 + 2 * t) j = if t = s then 0 else σ.2 (56 + 2 * t) j := fun j hj => by
              show (if 56 + 2 * t = 55 + 2 * s + 1 ∧ j < 24 then (0 : Int64) else σ.2 (56 + 2 * t) j) = _
              by_cases q : t = s
              · rw [if_pos q, if_pos ⟨by omega, hj⟩]
              · rw [if_neg q, if_neg (by omega)]
            rw [u1 0, u1 1, v1, v2]
            by_cases q : t = s
            · rw [if_pos q, if_pos q, if_pos q, if_pos q, if_neg (by decide), if_pos rfl, if_pos rfl]
              refine ⟨rfl, Or.inr ⟨l, n, hl, hn, rfl, rfl, rfl, fun j hj => ?_⟩⟩
              rw [u2 j hj, if_pos q, r3 _ (by omega), if_pos (by omega)]
            · rw [if_neg q, if_neg q, if_neg q, if_neg q]
              refine ⟨e', ?_⟩
              rcases g' with g | ⟨l, n, h1, h2, h3, h4, h6, h7⟩
              · exact Or.inl g
              · refine Or.inr ⟨l, n, h1, h2, h3, h4, h6, fun j hj => ?_⟩
                rw [u2 j hj, if_neg q, r3 _ (by omega), if_neg (by omega)]; exact h7 j hj
        · exact ⟨-14, σ, μ, t_X8_sheet ⟨fun z => absurd ((wn4 _).mpr qa) z, fun _ => ⟨fun z => absurd ((wn4 _).mpr qb) z, fun _ => ⟨fun _ => ⟨fun z => absurd z q2, fun _ => ⟨rfl, rfl⟩⟩, fun z => absurd q1 z⟩⟩⟩, t_X9_sheet ⟨fun z => absurd ((iv3 _).mpr qa) z, fun _ => ⟨fun z => absurd ((iv3 _).mpr qb) z, fun _ => ⟨fun _ => ⟨fun z => absurd z q2, fun _ => ⟨rfl, rfl⟩⟩, fun z => absurd q1 z⟩⟩⟩, h⟩
      · exact ⟨-1, σ, μ, t_X8_sheet ⟨fun z => absurd ((wn4 _).mpr qa) z, fun _ => ⟨fun z => absurd ((wn4 _).mpr qb) z, fun _ => ⟨fun z => absurd z q1, fun _ => ⟨rfl, rfl⟩⟩⟩⟩, t_X9_sheet ⟨fun z => absurd ((iv3 _).mpr qa) z, fun _ => ⟨fun z => absurd ((iv3 _).mpr qb) z, fun _ => ⟨fun z => absurd z q1, fun _ => ⟨rfl, rfl⟩⟩⟩⟩, h⟩
    · exact ⟨-1, σ, μ, t_X8_sheet ⟨fun z => absurd ((wn4 _).mpr qa) z, fun _ => ⟨fun _ => ⟨rfl, rfl⟩, fun z => absurd ((wn4 _).mp z) qb⟩⟩, t_X9_sheet ⟨fun z => absurd ((iv3 _).mpr qa) z, fun _ => ⟨fun _ => ⟨rfl, rfl⟩, fun z => absurd ((iv3 _).mp z) qb⟩⟩, h⟩
  · exact ⟨-1, σ, μ, t_X8_sheet ⟨fun _ => ⟨rfl, rfl⟩, fun z => absurd ((wn4 _).mp z) qa⟩, t_X9_sheet ⟨fun _ => ⟨rfl, rfl⟩, fun z => absurd ((iv3 _).mp z) qa⟩, h⟩
/-- items k of c brought from place f to place g of the reference's row -/
def cpL (μ : kS) (f g o k : Nat) : kS := (μ.1, fun a b => if a = 3 ∧ g + o ≤ b ∧ b < g + o + k then μ.2 3 (f + (b - g)) else μ.2 a b)
theorem cpL_0 {μ : kS} {f g o : Nat} : cpL μ f g o 0 = μ := by
  unfold cpL
  rw [show (fun a b => if a = 3 ∧ g + o ≤ b ∧ b < g + o + 0 then μ.2 3 (f + (b - g)) else μ.2 a b) = μ.2 from by funext a b; rw [if_neg (by omega)]]
theorem cpL_up {μ : kS} {f g k : Nat} (h : ¬ (g ≤ f + k ∧ f + k < g + k)) : k_sl (cpL μ f g 0 k) 3 (g + k) ((cpL μ f g 0 k).2 3 (f + k)) = cpL μ f g 0 (k + 1) := by
  have hv : (cpL μ f g 0 k).2 3 (f + k) = μ.2 3 (f + k) := by
    show (if 3 = 3 ∧ g + 0 ≤ f + k ∧ f + k < g + 0 + k then _ else _) = _
    rw [if_neg (by omega)]
  rw [hv]
  refine Prod.ext rfl ?_
  funext a b
  rw [s_l]
  show _ = if a = 3 ∧ g + 0 ≤ b ∧ b < g + 0 + (k + 1) then μ.2 3 (f + (b - g)) else μ.2 a b
  by_cases q : a = 3
  · rw [if_pos q]
    by_cases q2 : b = g + k
    · rw [if_pos q2, if_pos (by omega), q2]; exact congrArg _ (by omega)
    · rw [if_neg q2]
      show (if a = 3 ∧ g + 0 ≤ b ∧ b < g + 0 + k then μ.2 3 (f + (b - g)) else μ.2 a b) = _
      by_cases q3 : g ≤ b ∧ b < g + k
      · rw [if_pos (by omega), if_pos (by omega)]
      · rw [if_neg (by omega), if_neg (by omega)]
  · rw [if_neg q, if_neg (by omega)]
    show (if a = 3 ∧ g + 0 ≤ b ∧ b < g + 0 + k then μ.2 3 (f + (b - g)) else μ.2 a b) = _
    rw [if_neg (by omega)]
theorem cpL_dn {μ : kS} {f g o k : Nat} (h : f ≤ g) : k_sl (cpL μ f g (o + 1) k) 3 (g + o) ((cpL μ f g (o + 1) k).2 3 (f + o)) = cpL μ f g o (k + 1) := by
  have hv : (cpL μ f g (o + 1) k).2 3 (f + o) = μ.2 3 (f + o) := by
    show (if 3 = 3 ∧ g + (o + 1) ≤ f + o ∧ f + o < g + (o + 1) + k then _ else _) = _
    rw [if_neg (by omega)]
  rw [hv]
  refine Prod.ext rfl ?_
  funext a b
  rw [s_l]
  show _ = if a = 3 ∧ g + o ≤ b ∧ b < g + o + (k + 1) then μ.2 3 (f + (b - g)) else μ.2 a b
  by_cases q : a = 3
  · rw [if_pos q]
    by_cases q2 : b = g + o
    · rw [if_pos q2, if_pos (by omega), q2]; exact congrArg _ (by omega)
    · rw [if_neg q2]
      show (if a = 3 ∧ g + (o + 1) ≤ b ∧ b < g + (o + 1) + k then μ.2 3 (f + (b - g)) else μ.2 a b) = _
      by_cases q3 : g + (o + 1) ≤ b ∧ b < g + (o + 1) + k
      · rw [if_pos (by omega), if_pos (by omega)]
      · rw [if_neg (by omega), if_neg (by omega)]
  · rw [if_neg q, if_neg (by omega)]
    show (if a = 3 ∧ g + (o + 1) ≤ b ∧ b < g + (o + 1) + k then μ.2 3 (f + (b - g)) else μ.2 a b) = _
    rw [if_neg (by omega)]
theorem n24b (s i y : Nat) : (24 : Int32) * nI s + nI i + nI y = nI (24 * s + i + y) := by rw [n24, nI_add]
theorem m_copyU {s t i j k : Nat} {μ : kS} (hs : s < 4) (ht : t < 4) (hi : i + k ≤ 24) (hj : j + k ≤ 24) (h : s ≠ t ∨ j ≤ i) : E_X9_copy_110 (nI s) (nI i) (nI t) (nI j) (nI k) 0 0 μ (nI k) (cpL μ (24 * s + i) (24 * t + j) 0 k) := by
  have key : ∀ c, c ≤ k → E_X9_copy_110 (nI s) (nI i) (nI t) (nI j) (nI k) 0 (nI c) (cpL μ (24 * s + i) (24 * t + j) 0 c) (nI k) (cpL μ (24 * s + i) (24 * t + j) 0 k) := by
    refine loop_up k ?_ (fun c hc ih => ?_)
    · exact t_X9_copy_110 ⟨fun _ => ⟨rfl, rfl⟩, fun z => absurd (Int32.le_refl _) z⟩
    · refine t_X9_copy_110 ⟨fun z => absurd z (nI_ge hc (by omega)), fun _ => ⟨fun _ => t_X9_copy_134 ?_, fun z => absurd rfl z⟩⟩
      rw [n24b, n24b, n_N (by omega), n_N (by omega), n_inc, cpL_up (by omega)]
      exact ⟨n_in (by omega) (by decide), n_in (by omega) (by decide), ih⟩
  have := key 0 (Nat.zero_le _)
  rw [cpL_0] at this
  exact this
theorem m_copyD {s i j k : Nat} {μ : kS} (hs : s < 4) (hi : i + k ≤ 24) (hj : j + k ≤ 24) (h : i ≤ j) : E_X9_copy_110 (nI s) (nI i) (nI s) (nI j) (nI k) 1 0 μ (nI k) (cpL μ (24 * s + i) (24 * s + j) 0 k) := by
  have key : ∀ c, c ≤ k → E_X9_copy_110 (nI s) (nI i) (nI s) (nI j) (nI k) 1 (nI c) (cpL μ (24 * s + i) (24 * s + j) (k - c) c) (nI k) (cpL μ (24 * s + i) (24 * s + j) 0 k) := by
    refine loop_up k ?_ (fun c hc ih => ?_)
    · refine t_X9_copy_110 ⟨fun _ => ⟨rfl, ?_⟩, fun z => absurd (Int32.le_refl _) z⟩
      rw [Nat.sub_self]
    · refine t_X9_copy_110 ⟨fun z => absurd z (nI_ge hc (by omega)), fun _ => ⟨fun z => absurd z (by decide), fun _ => t_X9_copy_134 ?_⟩⟩
      rw [show nI k - 1 - nI c = nI (k - (c + 1)) by rw [show (1 : Int32) = nI 1 from rfl, pk_sub (by omega), pk_sub (by omega)]; exact congrArg _ (by omega), n24b, n24b, n_N (by omega), n_N (by omega), n_inc, show k - c = k - (c + 1) + 1 by omega, cpL_dn (by omega)]
      exact ⟨n_in (by omega) (by decide), n_in (by omega) (by decide), ih⟩
  have := key 0 (Nat.zero_le _)
  rw [cpL_0] at this
  exact this
theorem q_copy {a b c d e : Int32} {σ μ : kS} (h : Inv σ μ) : ∃ x τ ν, R_X8_copy a b c d e σ x τ ∧ R_X9_copy a b c d e μ x ν ∧ Inv τ ν := by
  obtain ⟨A, i1, i2, i3, i4, i5⟩ := id h
  by_cases qa : ∃ k, k < 4 ∧ a = nI k
  · by_cases qc : ∃ k, k < 4 ∧ c = nI k
    · obtain ⟨s, hs, rfl⟩ := id qa
      obtain ⟨t, ht, rfl⟩ := id qc
      have hin : vp_in (nI s) 4 := n_in hs (by decide)
      have hit : vp_in (nI t) 4 := n_in ht (by decide)
      have wa := (wn4 _).mpr qa
      have wc := (wn4 _).mpr qc
      have va := (iv3 _).mpr qa
      have vc := (iv3 _).mpr qc
      obtain ⟨es, gs⟩ := i5 s hs
      obtain ⟨et, gt⟩ := i5 t ht
      have CX : ∀ {x τ}, ((¬ (¬ (σ.1 (55 + 2 * s) 0) = -1) → x = (-11 : Int32) ∧ τ = σ) ∧ ((¬ (σ.1 (55 + 2 * s) 0) = -1) → ((¬ (σ.1 (55 + 2 * t) 0) = -1) → ((σ.1 (55 + 2 * s) 0) = (σ.1 (55 + 2 * t) 0) → ∃ (x13 : Int32) (s12 : kS), R_X4_holds (55 + 2 * s) b e σ x13 s12 ∧ ((x13 = 0 → x = (-13 : Int32) ∧ τ = s12) ∧ (¬ x13 = 0 → ∃ (x16 : Int32) (s15 : kS), R_X4_holds (55 + 2 * t) d e s12 x16 s15 ∧ ((¬ x16 = 0 → (¬ b < 0 ∧ ¬ d < 0 ∧ ¬ e < 0 ∧ b.toNatClampNeg + e.toNatClampNeg ≤ 24 ∧ d.toNatClampNeg + e.toNatClampNeg ≤ 24) ∧ (x = e ∧ τ = (k_cl s15 (55 + 2 * s + 1) (55 + 2 * t + 1) b.toNatClampNeg d.toNatClampNeg e.toNatClampNeg))) ∧ (x16 = 0 → x = (-13 : Int32) ∧ τ = s15))))) ∧ (¬ (σ.1 (55 + 2 * s) 0) = (σ.1 (55 + 2 * t) 0) → x = (-12 : Int32) ∧ τ = σ)) ∧ (¬ (¬ (σ.1 (55 + 2 * t) 0) = -1) → x = (-11 : Int32) ∧ τ = σ))) → R_X8_copy (nI s) b (nI t) d e σ x τ := fun z => t_X8_copy ⟨fun z => absurd wa z, fun _ => ⟨fun _ => ⟨hin, _, fd38' hs, (fd38 hs).2, hit, _, fd38' ht, (fd38 ht).2, z⟩, fun z => absurd wc z⟩⟩
      rcases gs with gs | ⟨l, n, h1, h2, h3, h4, h6, h7⟩
      · refine ⟨-11, σ, μ, CX ⟨fun _ => ⟨rfl, rfl⟩, fun z => absurd (es.trans gs) z⟩, t_X9_copy ⟨fun z => absurd va z, fun _ => ⟨fun _ => ⟨hin, ?_⟩, fun z => absurd vc z⟩⟩, h⟩
        rw [n_N (by omega), gs]
        exact ⟨fun _ => ⟨rfl, rfl⟩, fun z => absurd (by decide) z⟩
      · have ns : ¬ σ.1 (55 + 2 * s) 0 = -1 := by rw [es, h3]; exact l_m1 h1
        have ms : ¬ μ.1 1 s < 0 := by rw [h3]; exact nI_pos (by omega)
        rcases gt with gt | ⟨l', n', k1, k2, k3, k4, k6, k7⟩
        · refine ⟨-11, σ, μ, CX ⟨fun z => absurd ns z, fun _ => ⟨fun z => absurd (et.trans gt) z, fun _ => ⟨rfl, rfl⟩⟩⟩, t_X9_copy ⟨fun z => absurd va z, fun _ => ⟨fun _ => ⟨hin, ?_⟩, fun z => absurd vc z⟩⟩, h⟩
          rw [n_N (by omega), n_N (by omega)]
          refine ⟨fun z => absurd z ms, fun _ => ⟨hit, fun z => ?_, fun _ => ⟨rfl, rfl⟩⟩⟩
          rw [gt] at z; exact absurd z (by decide)
        · have nt : ¬ σ.1 (55 + 2 * t) 0 = -1 := by rw [et, k3]; exact l_m1 k1
          have mt : 0 ≤ μ.1 1 t := by rw [k3]; exact nI_pos' (by omega)
          by_cases ql : l = l'
          · have ex : σ.1 (55 + 2 * s) 0 = σ.1 (55 + 2 * t) 0 := by rw [es, et, h3, k3, ql]
            have em : μ.1 1 s = μ.1 1 t := by rw [h3, k3, ql]
            have hh := x_holds (a1 := b) (a2 := e) (fd38 hs).2 h4
            have hk := x_holds (a1 := d) (a2 := e) (fd38 ht).2 k4
            have CM : ∀ {x τ}, ((¬ (ip b e (nI n)) → x = (-13 : Int32) ∧ τ = μ) ∧ ((ip b e (nI n)) → vp_in (nI t) 4 ∧ (((ip d e (nI n')) → (¬ nI s = nI t → E_X9_copy_110 (nI s) b (nI t) d e (0 : Int32) (0 : Int32) μ x τ) ∧ (nI s = nI t → (d ≤ b → E_X9_copy_110 (nI s) b (nI t) d e (0 : Int32) (0 : Int32) μ x τ) ∧ (¬ d ≤ b → E_X9_copy_110 (nI s) b (nI t) d e (1 : Int32) (0 : Int32) μ x τ))) ∧ (¬ (ip d e (nI n')) → x = (-13 : Int32) ∧ τ = μ)))) → R_X9_copy (nI s) b (nI t) d e μ x τ := fun z => t_X9_copy ⟨fun z => absurd va z, fun _ => ⟨fun _ => ⟨hin, by
                rw [n_N (by omega), n_N (by omega), h6, k6]
                exact ⟨fun z => absurd z ms, fun _ => ⟨hit, fun _ => ⟨hin, hit, fun _ => ⟨hin, z⟩, fun z => absurd em z⟩, fun z => absurd mt z⟩⟩⟩, fun z => absurd vc z⟩⟩
            by_cases p1 : ip b e (nI n)
            · rw [bI_t p1] at hh
              by_cases p2 : ip d e (nI n')
              · rw [bI_t p2] at hk
                obtain ⟨i, k, rfl, rfl, hik⟩ := (ip_ok h2).mp p1
                obtain ⟨j, k', rfl, ek, hjk⟩ := (ip_ok k2).mp p2
                have ekk : k = k' := (nI_eq (by omega) (by omega)).mp ek
                subst ekk
                have hcp : R_X9_copy (nI s) (nI i) (nI t) (nI j) (nI k) μ (nI k) (cpL μ (24 * s + i) (24 * t + j) 0 k) := by
                  have est : (nI s = nI t ↔ s = t) := nI_eq (by omega) (by omega)
                  refine CM ⟨fun z => absurd p1 z, fun _ => ⟨hit, fun _ => ⟨fun z => ?_, fun z => ⟨fun z2 => ?_, fun z2 => ?_⟩⟩, fun z => absurd p2 z⟩⟩
                  · exact m_copyU hs ht (by omega) (by omega) (Or.inl (fun w => z (est.mpr w)))
                  · rw [n_le (by omega) (by omega)] at z2
                    exact m_copyU hs ht (by omega) (by omega) (Or.inr z2)
                  · rw [n_le (by omega) (by omega)] at z2
                    have := est.mp z
                    subst this
                    exact m_copyD hs (by omega) (by omega) (by omega)
                have f1 : fr LSh σ (k_cl σ (55 + 2 * s + 1) (55 + 2 * t + 1) i j k) := fr_cl (ls_b ht)
                have f2 : fr [1, 2, 3] μ (cpL μ (24 * s + i) (24 * t + j) 0 k) := fun a ha => ⟨rfl, by
                  funext y
                  show (if a = 3 ∧ _ then _ else _) = _
                  rw [if_neg (fun z => ha (by rw [z.1]; decide))]⟩
                refine ⟨nI k, k_cl σ (55 + 2 * s + 1) (55 + 2 * t + 1) i j k, _, CX ⟨fun z => absurd ns z, fun _ => ⟨fun _ => ⟨fun _ => ⟨_, _, hh, fun z => absurd z (by decide), fun _ => ⟨_, _, hk, fun _ => ⟨⟨n_neg (by omega), n_neg (by omega), n_neg (by omega), ?_, ?_⟩, rfl, ?_⟩, fun z => absurd z (by decide)⟩⟩, fun z => absurd ex z⟩, fun z => absurd nt z⟩⟩, hcp, Inv_5 h f1 f2 (fun u hu => ?_)⟩
                · rw [n_N (by omega), n_N (by omega)]; omega
                · rw [n_N (by omega), n_N (by omega)]; omega
                · rw [n_N (by omega), n_N (by omega), n_N (by omega)]
                · obtain ⟨e', g'⟩ := i5 u hu
                  refine ⟨e', ?_⟩
                  rcases g' with g | ⟨l, n, w1, w2, w3, w4, w6, w7⟩
                  · exact Or.inl g
                  · refine Or.inr ⟨l, n, w1, w2, w3, w4, w6, fun y hy => ?_⟩
                    show (if 56 + 2 * u = 55 + 2 * t + 1 then va_cpy (σ.2 (55 + 2 * s + 1)) (σ.2 (55 + 2 * t + 1)) i j k y else σ.2 (56 + 2 * u) y) = (if 3 = 3 ∧ 24 * t + j + 0 ≤ 24 * u + y ∧ 24 * u + y < 24 * t + j + 0 + k then μ.2 3 (24 * s + i + (24 * u + y - (24 * t + j))) else μ.2 3 (24 * u + y))
                    by_cases q : u = t
                    · subst q
                      rw [if_pos (by omega)]
                      unfold va_cpy
                      by_cases q2 : j ≤ y ∧ y < j + k
                      · rw [if_pos q2, if_pos (by omega)]
                        have := h7 (i + (y - j)) (by omega)
                        rw [show 56 + 2 * s = 55 + 2 * s + 1 by omega] at this
                        rw [this]; exact congrArg _ (by omega)
                      · rw [if_neg q2, if_neg (by omega)]
                        have := w7 y hy
                        rw [show 56 + 2 * u = 55 + 2 * u + 1 by omega] at this
                        exact this
                    · rw [if_neg (by omega), if_neg (by omega)]; exact w7 y hy
              · rw [bI_f p2] at hk
                exact ⟨-13, σ, μ, CX ⟨fun z => absurd ns z, fun _ => ⟨fun _ => ⟨fun _ => ⟨_, _, hh, fun z => absurd z (by decide), fun _ => ⟨_, _, hk, fun z => absurd rfl z, fun _ => ⟨rfl, rfl⟩⟩⟩, fun z => absurd ex z⟩, fun z => absurd nt z⟩⟩, CM ⟨fun z => absurd p1 z, fun _ => ⟨hit, fun z => absurd z p2, fun _ => ⟨rfl, rfl⟩⟩⟩, h⟩
            · rw [bI_f p1] at hh
              exact ⟨-13, σ, μ, CX ⟨fun z => absurd ns z, fun _ => ⟨fun _ => ⟨fun _ => ⟨_, _, hh, fun _ => ⟨rfl, rfl⟩, fun z => absurd rfl z⟩, fun z => absurd ex z⟩, fun z => absurd nt z⟩⟩, CM ⟨fun _ => ⟨rfl, rfl⟩, fun z => absurd z p1⟩, h⟩
          · have nx : ¬ σ.1 (55 + 2 * s) 0 = σ.1 (55 + 2 * t) 0 := by rw [es, et, h3, k3]; exact fun z => ql ((nI_eq (by omega) (by omega)).mp z)
            have nm : ¬ μ.1 1 s = μ.1 1 t := by rw [h3, k3]; exact fun z => ql ((nI_eq (by omega) (by omega)).mp z)
            refine ⟨-12, σ, μ, CX ⟨fun z => absurd ns z, fun _ => ⟨fun _ => ⟨fun z => absurd z nx, fun _ => ⟨rfl, rfl⟩⟩, fun z => absurd nt z⟩⟩, t_X9_copy ⟨fun z => absurd va z, fun _ => ⟨fun _ => ⟨hin, ?_⟩, fun z => absurd vc z⟩⟩, h⟩
            rw [n_N (by omega), n_N (by omega)]
            exact ⟨fun z => absurd z ms, fun _ => ⟨hit, fun _ => ⟨hin, hit, fun z => absurd z nm, fun _ => ⟨rfl, rfl⟩⟩, fun z => absurd mt z⟩⟩
    · exact ⟨-1, σ, μ, t_X8_copy ⟨fun _ => ⟨rfl, rfl⟩, fun _ => ⟨fun z => absurd ((wn4 _).mp z) qc, fun _ => ⟨rfl, rfl⟩⟩⟩, t_X9_copy ⟨fun _ => ⟨rfl, rfl⟩, fun _ => ⟨fun z => absurd ((iv3 _).mp z) qc, fun _ => ⟨rfl, rfl⟩⟩⟩, h⟩
  · exact ⟨-1, σ, μ, t_X8_copy ⟨fun _ => ⟨rfl, rfl⟩, fun z => absurd ((wn4 _).mp z) qa⟩, t_X9_copy ⟨fun _ => ⟨rfl, rfl⟩, fun z => absurd ((iv3 _).mp z) qa⟩, h⟩
theorem q_log {a b c : Int32} {σ μ : kS} (h : Inv σ μ) : ∃ x τ ν, R_X8_log a b c σ x τ ∧ R_X9_log a b c μ x ν ∧ Inv τ ν := by
  obtain ⟨A, i1, i2, i3, i4, i5⟩ := id h
  have hc := wfc i1.1
  by_cases qt : 0 < A 1
  · by_cases qa : ∃ k, k < 4 ∧ a = nI k
    · by_cases qb : ∃ k, k < 4 ∧ b = nI k
      · obtain ⟨s, hs, rfl⟩ := id qa
        obtain ⟨l, hl, rfl⟩ := id qb
        have hin : vp_in (nI s) 4 := n_in hs (by decide)
        obtain ⟨x, r1, r2, r3⟩ := p_ref (a3 := c) (a4 := nI (A 3)) i5 hs hl
        have n1 : σ.1 3 2 = nI (A 3) := i1.2.2.1.1.2.2.1
        have n2 : μ.1 5 3 = nI (A 3) := mr_n i1.2.2.2.1 (by decide)
        by_cases q0 : x = 0
        · obtain ⟨n, i, k, hn, rfl, ek, hik, e1, e2, e3⟩ := r3 q0
          have ekk : A 3 = k := (nI_eq (by omega) (by omega)).mp ek
          obtain ⟨σ1, s1, s2, s3⟩ := x_singAll (v := 3) rfl i1.2.2.1 (i1.2.2.2.2 qt) i1.1
          obtain ⟨μ1, m1, m2, m3⟩ := m_singAll (r := 5) rfl (by decide) i1.2.2.2.1 i1.1
          have hI1 : Inv σ1 μ1 := Inv_sc h (fr_mo s2 (by decide)) m2 (by decide)
          have key : ∀ j, j ≤ A 3 → ∀ σ' μ', Inv σ' μ' → fr LSh σ1 σ' → fr [1, 2, 3] μ1 μ' → σ'.1 (55 + 2 * s) 0 = nI l → ∃ τ ν, E_X8_log_51 (nI s) (nI i) (nI j) σ' (nI (A 3)) τ ∧ E_X9_log_60 (nI s) (nI l) (nI i) (nI j) μ' (nI (A 3)) ν ∧ Inv τ ν := by
            refine loop_up (A 3) (fun σ' μ' hI f1 f2 hl0 => ?_) (fun j hj ih σ' μ' hI f1 f2 hl0 => ?_)
            · have g1 : σ'.1 3 2 = nI (A 3) := by rw [(f1 3 (by decide)).1, (s2 3 (by decide)).1]; exact n1
              have g2 : μ'.1 5 3 = nI (A 3) := by rw [(f2 5 (by decide)).1, (m2 5 (by decide)).1]; exact n2
              exact ⟨σ', μ', t_X8_log_51 ⟨fun _ => ⟨g1.symm, rfl⟩, fun z => absurd (by rw [g1]; exact Int32.le_refl _) z⟩, t_X9_log_60 ⟨fun _ => ⟨g2.symm, rfl⟩, fun z => absurd (by rw [g2]; exact Int32.le_refl _) z⟩, hI⟩
            · have g1 : σ'.1 3 2 = nI (A 3) := by rw [(f1 3 (by decide)).1, (s2 3 (by decide)).1]; exact n1
              have g2 : μ'.1 5 3 = nI (A 3) := by rw [(f2 5 (by decide)).1, (m2 5 (by decide)).1]; exact n2
              have v1 : σ'.1 28 j = nI (sgP A (A 2) j) := by rw [(f1 28 (by decide)).1]; exact s3 j (by omega)
              have v2 : μ'.1 11 j = nI (sgP A (A 2) j) := by rw [(f2 11 (by decide)).1]; exact m3 j (by omega)
              have hI' := hI
              obtain ⟨A', -, -, -, -, j5⟩ := hI'
              have p1 := x_put (v := (nI (sgP A (A 2) j)).toInt64) (fd38 hs).2 hl hl0 (show i + j < 24 by omega)
              have e1 : fr LSh σ' (k_sl σ' (55 + 2 * s + 1) (i + j) (cut l (nI (sgP A (A 2) j)).toInt64)) := fr_sl (ls_b hs)
              have e2 : fr [1, 2, 3] μ' (k_sl μ' 3 (24 * s + (i + j)) (cut l (nI (sgP A (A 2) j)).toInt64)) := fr_sl (by decide)
              obtain ⟨τ, ν, t1, t2, t3⟩ := ih _ _ (Inv_5 hI e1 e2 (I5_put j5 hs (by omega))) (fr_tr f1 e1) (fr_tr f2 e2) hl0
              refine ⟨τ, ν, t_X8_log_51 ⟨fun z => absurd z (by rw [g1]; exact nI_ge (by omega) (by omega)), fun _ => ⟨hin, _, fd38' hs, (fd38 hs).2, n_in (by omega) (by decide), ?_⟩⟩, t_X9_log_60 ⟨fun z => absurd z (by rw [g2]; exact nI_ge (by omega) (by omega)), fun _ => ⟨n_in (by omega) (by decide), ?_⟩⟩, t3⟩
              · rw [n_N (by omega), v1, nI_add, n_inc]; exact ⟨_, p1, t1⟩
              · rw [n_N (by omega), v2, n24b, n_N (by omega), n_inc]
                exact ⟨_, _, m_cut hl, n_in (by omega) (by decide), by rw [show 24 * s + i + j = 24 * s + (i + j) by omega]; exact t2⟩
          obtain ⟨τ, ν, t1, t2, t3⟩ := key 0 (Nat.zero_le _) σ1 μ1 hI1 fr_rf fr_rf (by rw [(s2 _ (by simp; omega)).1]; exact e1)
          refine ⟨_, τ, ν, t_X8_log ⟨fun _ => ⟨x, σ, by rw [n1]; exact r1, fun _ => ⟨_, _, s1, t1⟩, fun z => absurd q0 z⟩, fun z => absurd ((I1_th i1).mpr qt) z⟩, t_X9_log ⟨fun z => absurd ((I1_tm i1).mpr qt) z, fun _ => ⟨fun z => absurd ((iv3 _).mpr qa) z, fun _ => ⟨fun _ => ⟨x, μ, by rw [n2]; exact r2, fun _ => ⟨_, _, m1, t2⟩, fun z => absurd q0 z⟩, fun z => absurd ((iv3 _).mpr qb) z⟩⟩⟩, t3⟩
        · exact ⟨x, σ, μ, t_X8_log ⟨fun _ => ⟨x, σ, by rw [n1]; exact r1, fun z => absurd z q0, fun _ => ⟨rfl, rfl⟩⟩, fun z => absurd ((I1_th i1).mpr qt) z⟩, t_X9_log ⟨fun z => absurd ((I1_tm i1).mpr qt) z, fun _ => ⟨fun z => absurd ((iv3 _).mpr qa) z, fun _ => ⟨fun _ => ⟨x, μ, by rw [n2]; exact r2, fun z => absurd z q0, fun _ => ⟨rfl, rfl⟩⟩, fun z => absurd ((iv3 _).mpr qb) z⟩⟩⟩, h⟩
      · exact ⟨-1, σ, μ, t_X8_log ⟨fun _ => ⟨-1, σ, t_X8_refusal ⟨fun _ => ⟨rfl, rfl⟩, fun _ => ⟨fun z => absurd ((wn4 _).mp z) qb, fun _ => ⟨rfl, rfl⟩⟩⟩, fun z => absurd z (by decide), fun _ => ⟨rfl, rfl⟩⟩, fun z => absurd ((I1_th i1).mpr qt) z⟩, t_X9_log ⟨fun _ => ⟨rfl, rfl⟩, fun _ => ⟨fun _ => ⟨rfl, rfl⟩, fun _ => ⟨fun z => absurd ((iv3 _).mp z) qb, fun _ => ⟨rfl, rfl⟩⟩⟩⟩, h⟩
    · exact ⟨-1, σ, μ, t_X8_log ⟨fun _ => ⟨-1, σ, t_X8_refusal ⟨fun _ => ⟨rfl, rfl⟩, fun z => absurd ((wn4 _).mp z) qa⟩, fun z => absurd z (by decide), fun _ => ⟨rfl, rfl⟩⟩, fun z => absurd ((I1_th i1).mpr qt) z⟩, t_X9_log ⟨fun _ => ⟨rfl, rfl⟩, fun _ => ⟨fun _ => ⟨rfl, rfl⟩, fun z => absurd ((iv3 _).mp z) qa⟩⟩, h⟩
  · exact ⟨-1, σ, μ, t_X8_log ⟨fun z => absurd ((I1_th i1).mp z) qt, fun _ => ⟨rfl, rfl⟩⟩, t_X9_log ⟨fun _ => ⟨rfl, rfl⟩, fun z => absurd ((I1_tm i1).mp z) qt⟩, h⟩
