/-! one sings alone; pairs on a sheet; kinds -/
def al (A : Nat → Nat) (k i n : Nat) : Nat := chN k (rtn A n) (mis A n &&& rng A i)
theorem al_le (A : Nat → Nat) (k i n : Nat) : al A k i n ≤ 12 := chN_le _ _ (rtn_lt A n)
theorem x_alone {A : Nat → Nat} {σ : kS} {k i n : Nat} (hT : CT σ A) (hW : WF A) (hk : 1 ≤ k ∧ k ≤ 5) (hi : i < A 3) (hn : n < 4096) : R_X1_alone (nI k) (nI (rng A i)) (nI n) σ (nI (al A k i n)) σ := by
  refine t_X1_alone ⟨_, _, x_rootOf hT hW hn, _, _, x_missingOf hT hW hn, nI (al A k i n), σ, ?_, rfl, rfl⟩
  rw [n_and]
  refine x_choose hk (and_lt (mis_lt n)) (rtn_lt A n) (fun h0 => ?_)
  cases hc : chd A n with
  | none => exact absurd (by unfold mis; rw [hc]; exact Nat.zero_and _) h0
  | some c => unfold rtn; rw [hc]; rfl
theorem m_alone {A : Nat → Nat} {μ : kS} {k i n : Nat} (hm : mr 5 μ A) (hW : WF A) (hk : 1 ≤ k ∧ k ≤ 5) (hi : i < A 3) : R_X9_aloneSings (nI i) (nI k) (nI n) (cI (chd A n)) μ (nI (al A k i n)) μ := by
  have h1 := m_missingBy (r := 5) (n := n) rfl hm hW
  have h2 := m_rangeOf (r := 5) rfl hm hW hi
  cases hc : chd A n with
  | none =>
    refine t_X9_aloneSings ⟨fun c => absurd c cI_neg, fun _ => ⟨?_, rfl⟩⟩
    unfold al; rw [show mis A n = 0 by unfold mis; rw [hc], Nat.zero_and, ch_0]; rfl
  | some c =>
    have hb := chd_b hW n c hc
    have e : c % 12 = rtn A n := by unfold rtn; rw [hc]; rfl
    rw [hc] at h1
    refine t_X9_aloneSings ⟨fun _ => ⟨_, _, h1, _, _, h2, nI (al A k i n), μ, ?_, rfl, rfl⟩, fun z => absurd (cI_pos (by omega)) z⟩
    rw [cI_some, n_rem (by omega), e, n_and]
    exact m_singsOf hk (and_lt (mis_lt n)) (rtn_lt A n)
def okP (f : Nat → Int64) (o L j : Nat) : Prop := ∃ w v, w < L ∧ v ≤ 12 ∧ f (o + 2 * j) = lN w ∧ f (o + 2 * j + 1) = lN v
def PF (f : Nat → Int64) (o L c q : Nat) : Prop := ∀ j, q ≤ j → j < c → okP f o L j
theorem PF_s {f : Nat → Int64} {o L c q : Nat} (h : okP f o L q) : PF f o L c q ↔ PF f o L c (q + 1) := by
  constructor
  · exact fun g j a b => g j (by omega) b
  · intro g j a b
    by_cases e : j = q
    · rw [e]; exact h
    · exact g j (by omega) b
theorem l0 (x : Int64) : lg_cmp x 0 < 0 ↔ ¬ 0 ≤ x := by rw [lg_cmp_lt]; exact Int64.not_le.symm
theorem okP_i {f : Nat → Int64} {o L j : Nat} (hL : L < 2 ^ 31) : okP f o L j ↔ (¬ lg_cmp (f (o + 2 * j)) 0 < 0 ∧ ¬ 0 ≤ lg_cmp (f (o + 2 * j)) (nI L).toInt64 ∧ ¬ lg_cmp (f (o + 2 * j + 1)) 0 < 0 ∧ lg_cmp (f (o + 2 * j + 1)) 12 ≤ 0) := by
  rw [l0, l0, lg_cmp_ge, lg_cmp_le, nI_l hL, Classical.not_not, Classical.not_not, Int64.not_le]
  constructor
  · rintro ⟨w, v, h1, h2, e1, e2⟩
    rw [e1, e2, show (0 : Int64) = lN 0 from rfl, show (12 : Int64) = lN 12 from rfl, pk_lLE (by decide) (by omega), pk_lLT (by omega) (by omega), pk_lLE (by decide) (by omega), pk_lLE (by omega) (by decide)]
    omega
  · rintro ⟨a, b, c, d⟩
    obtain ⟨w, hw, ew⟩ := pk_lOf (x := f (o + 2 * j)) (Int64.not_lt.mpr a)
    obtain ⟨v, hv, ev⟩ := pk_lOf (x := f (o + 2 * j + 1)) (Int64.not_lt.mpr c)
    rw [ew, pk_lLT hw (by omega)] at b
    rw [ev, show (12 : Int64) = lN 12 from rfl, pk_lLE hv (by decide)] at d
    exact ⟨w, v, b, d, ew, ev⟩
theorem l13 (x : Int64) : 0 ≤ lg_cmp x (13 : Int32).toInt64 ↔ ¬ lg_cmp x 12 ≤ 0 := by
  rw [lg_cmp_ge, lg_cmp_le, Int64.le_iff_toInt_le, Int64.le_iff_toInt_le, show ((13 : Int32).toInt64).toInt = 13 by decide, show (12 : Int64).toInt = 12 by decide]
  omega
theorem n2j (o q : Nat) : nI o + (2 : Int32) * nI q = nI (o + 2 * q) := by rw [show (2 : Int32) = nI 2 from rfl, pk_mul, nI_add]
theorem x_pairs {s o c L : Nat} {σ : kS} (hs : k_sht s = true) (ho : o + 2 * c ≤ 24) (hL : L < 2 ^ 31) : R_X4_holdsPairs s (nI o) (nI c) (nI L) σ (bI (PF (σ.2 (s + 1)) o L c 0)) σ := by
  have key : ∀ q, q ≤ c → E_X4_holdsPairs_3 s (nI o) (nI c) (nI L) (nI q) σ (bI (PF (σ.2 (s + 1)) o L c q)) σ := by
    refine loop_up c ?_ (fun q hq ih => ?_)
    · exact t_X4_holdsPairs_3 hs ⟨fun _ => ⟨bI_t (fun j a b => absurd b (by omega)), rfl⟩, fun z => absurd (Int32.le_refl _) z⟩
    · refine t_X4_holdsPairs_3 hs ⟨fun z => absurd z (nI_ge hq (by omega)), fun _ => ?_⟩
      rw [n2j, n_inc, n_inc, n_N (by omega), n_N (by omega)]
      refine ⟨n_in (by omega) (by decide), n_in (by omega) (by decide), fun z => ⟨bI_f (fun g => ?_), rfl⟩, fun z1 => ⟨fun z => ⟨bI_f (fun g => ?_), rfl⟩, fun z2 => ⟨fun z => ⟨bI_f (fun g => ?_), rfl⟩, fun z3 => ⟨fun z4 => ?_, fun z => ⟨bI_f (fun g => ?_), rfl⟩⟩⟩⟩⟩
      · exact ((okP_i hL).mp (g q (Nat.le_refl _) hq)).1 z
      · exact ((okP_i hL).mp (g q (Nat.le_refl _) hq)).2.1 z
      · exact ((okP_i hL).mp (g q (Nat.le_refl _) hq)).2.2.1 z
      · rw [show bI (PF (σ.2 (s + 1)) o L c q) = bI (PF (σ.2 (s + 1)) o L c (q + 1)) by rw [propext (PF_s ((okP_i hL).mpr ⟨z1, z2, z3, z4⟩))]]
        exact ih
      · exact z ((okP_i hL).mp (g q (Nat.le_refl _) hq)).2.2.2
  exact t_X4_holdsPairs hs (key 0 (Nat.zero_le _))
theorem m_pairs {o c L : Nat} {μ : kS} (ho : o + 2 * c ≤ 96) (hL : L < 2 ^ 31) : R_X9_areBelow (nI o) (nI c) (nI L) 13 μ (bI (PF (μ.2 3) o L c 0)) μ := by
  have z0 : ∀ q, q ≤ c → E_X9_areBelow_6 (nI o) (nI c) (nI L) 13 0 (nI q) μ 0 μ := by
    refine loop_up c ?_ (fun q hq ih => ?_)
    · exact t_X9_areBelow_6 ⟨fun _ => ⟨rfl, rfl, rfl⟩, fun z => absurd (Int32.le_refl _) z⟩
    · refine t_X9_areBelow_6 ⟨fun z => absurd z (nI_ge hq (by omega)), fun _ => ?_⟩
      rw [n2j, n_inc, n_inc]
      exact ⟨n_in (by omega) (by decide), n_in (by omega) (by decide), fun _ => ih, fun z => absurd rfl z⟩
  have key : ∀ q, q ≤ c → E_X9_areBelow_6 (nI o) (nI c) (nI L) 13 1 (nI q) μ (bI (PF (μ.2 3) o L c q)) μ := by
    refine loop_up c ?_ (fun q hq ih => ?_)
    · exact t_X9_areBelow_6 ⟨fun _ => ⟨rfl, bI_t (fun j a b => absurd b (by omega)), rfl⟩, fun z => absurd (Int32.le_refl _) z⟩
    · have zf : ∀ p : Prop, ¬ p → E_X9_areBelow_6 (nI o) (nI c) (nI L) 13 0 (nI (q + 1)) μ (bI p) μ := fun p hp => by rw [bI_f hp]; exact z0 (q + 1) hq
      refine t_X9_areBelow_6 ⟨fun z => absurd z (nI_ge hq (by omega)), fun _ => ?_⟩
      rw [n2j, n_inc, n_inc, n_N (by omega), n_N (by omega)]
      refine ⟨n_in (by omega) (by decide), n_in (by omega) (by decide), fun z => absurd z (by decide), fun _ => ⟨fun z => zf _ (fun g => ?_), fun z1 => ⟨fun z => zf _ (fun g => ?_), fun z2 => ⟨fun z => zf _ (fun g => ?_), fun z3 => ⟨fun z => zf _ (fun g => ?_), fun z4 => ?_⟩⟩⟩⟩⟩
      · exact ((okP_i hL).mp (g q (Nat.le_refl _) hq)).1 z
      · exact ((okP_i hL).mp (g q (Nat.le_refl _) hq)).2.1 z
      · exact ((okP_i hL).mp (g q (Nat.le_refl _) hq)).2.2.1 z
      · exact (l13 _).mp z ((okP_i hL).mp (g q (Nat.le_refl _) hq)).2.2.2
      · have h4 : lg_cmp (μ.2 3 (o + 2 * q + 1)) 12 ≤ 0 := Classical.byContradiction (fun c => z4 ((l13 _).mpr c))
        rw [show bI (PF (μ.2 3) o L c q) = bI (PF (μ.2 3) o L c (q + 1)) by rw [propext (PF_s ((okP_i hL).mpr ⟨z1, z2, z3, h4⟩))]]
        exact ih
  exact t_X9_areBelow (key 0 (Nat.zero_le _))
theorem l_eq (x y : Int64) : lg_cmp x y = 0 ↔ x = y := by
  unfold lg_cmp
  by_cases h : x > y
  · rw [if_pos h]; exact ⟨fun c => absurd c (by decide), fun c => absurd h (by rw [c]; exact Int64.lt_irrefl)⟩
  · rw [if_neg h]
    by_cases h2 : x = y
    · rw [if_pos h2]; exact ⟨fun _ => h2, fun _ => rfl⟩
    · rw [if_neg h2]; exact ⟨fun c => absurd c (by decide), fun c => absurd c h2⟩
/-- the pairs themselves -/
theorem PF_get {f : Nat → Int64} {o L c : Nat} (h : PF f o L c 0) : ∃ w v : Nat → Nat, ∀ j, j < c → w j < L ∧ v j ≤ 12 ∧ f (o + 2 * j) = lN (w j) ∧ f (o + 2 * j + 1) = lN (v j) := by
  have : ∀ j, ∃ w v : Nat, j < c → w < L ∧ v ≤ 12 ∧ f (o + 2 * j) = lN w ∧ f (o + 2 * j + 1) = lN v := fun j => by
    by_cases q : j < c
    · obtain ⟨w, v, a⟩ := h j (Nat.zero_le _) q
      exact ⟨w, v, fun _ => a⟩
    · exact ⟨0, 0, fun c => absurd c q⟩
  exact ⟨fun j => (this j).choose, fun j => (this j).choose_spec.choose, fun j hj => (this j).choose_spec.choose_spec hj⟩
/-- p with kind k would sing so -/
def KT (A : Nat → Nat) (w v : Nat → Nat) (c k p q : Nat) : Prop := ∀ j, q ≤ j → j < c → al A k p (w j) = v j
theorem KT_s {A : Nat → Nat} {w v : Nat → Nat} {c k p q : Nat} (h : al A k p (w q) = v q) : KT A w v c k p q ↔ KT A w v c k p (q + 1) := by
  constructor
  · exact fun g j a b => g j (by omega) b
  · intro g j a b
    by_cases e : j = q
    · rw [e]; exact h
    · exact g j (by omega) b
theorem al_eq {a v : Nat} (ha : a ≤ 12) (hv : v ≤ 12) : lg_cmp (nI a).toInt64 (lN v) = 0 ↔ a = v := by
  rw [l_eq, nI_l (by omega), lN_eq (by omega) (by omega)]
theorem q_kinds {a b c d e : Int32} {σ μ : kS} (h : Inv σ μ) : ∃ x τ ν, R_X8_kinds a b c d e σ x τ ∧ R_X9_kinds a b c d e μ x ν ∧ Inv τ ν := by
  obtain ⟨A, i1, i2, i3, i4, i5⟩ := id h
  have hc := wfc i1.1
  obtain ⟨ea, fa⟩ := I1_s i1 a
  by_cases qa : ∃ k, k < A 3 ∧ a = nI k
  · have hA3 : 0 < A 3 := by obtain ⟨k, hk, -⟩ := qa; omega
    have qt : 0 < A 1 := by have := i1.1.2.2.1; omega
    have hT := i1.2.2.2.2 qt
    by_cases qe : iv e 1 6
    · have e1 : ¬ e < 1 ∧ e ≤ 6 := by unfold iv at qe; rw [lt_I, le_I]; exact ⟨by omega, by omega⟩
      by_cases qb : ∃ k, k < 4 ∧ b = nI k
      · by_cases qc : ∃ k, k < 4 ∧ c = nI k
        · obtain ⟨p, hp, rfl⟩ := id qa
          obtain ⟨s, hs, rfl⟩ := id qb
          obtain ⟨l, hl, rfl⟩ := id qc
          have hee : ∃ n, 1 ≤ n ∧ n ≤ 6 ∧ e = nI n := by
            unfold iv at qe
            rw [show (1 : Int32).toInt = 1 from rfl, show (6 : Int32).toInt = 6 from rfl] at qe
            refine ⟨e.toInt.toNat, by omega, by omega, ?_⟩
            apply Int32.toInt_inj.mp
            rw [n_T (by omega)]; omega
          obtain ⟨n, hn1, hn6, rfl⟩ := hee
          have hin : vp_in (nI s) 4 := n_in hs (by decide)
          have e2n : (2 : Int32) * nI n = nI (2 * n) := by rw [show (2 : Int32) = nI 2 from rfl, pk_mul]
          obtain ⟨x, r1, r2, r3⟩ := p_ref (a3 := d) (a4 := nI (2 * n)) i5 hs hl
          by_cases q0 : x = 0
          · obtain ⟨sz, i, k, hsz, rfl, ek, hik, g1, g2, g3⟩ := r3 q0
            have ekk : 2 * n = k := (nI_eq (by omega) (by omega)).mp ek
            have hfe : PF (σ.2 (55 + 2 * s + 1)) i 4096 n 0 ↔ PF (μ.2 3) (24 * s + i) 4096 n 0 := by
              have hv : ∀ j, j < n → σ.2 (55 + 2 * s + 1) (i + 2 * j) = μ.2 3 (24 * s + i + 2 * j) ∧ σ.2 (55 + 2 * s + 1) (i + 2 * j + 1) = μ.2 3 (24 * s + i + 2 * j + 1) := fun j hj => by
                have u1 := g3 (i + 2 * j) (by omega)
                have u2 := g3 (i + 2 * j + 1) (by omega)
                rw [show 56 + 2 * s = 55 + 2 * s + 1 by omega] at u1 u2
                exact ⟨u1.trans (congrArg _ (by omega)), u2.trans (congrArg _ (by omega))⟩
              constructor
              · intro g j a b
                obtain ⟨w, v, z⟩ := g j a b
                rw [(hv j b).1, (hv j b).2] at z
                exact ⟨w, v, z⟩
              · intro g j a b
                obtain ⟨w, v, z⟩ := g j a b
                rw [← (hv j b).1, ← (hv j b).2] at z
                exact ⟨w, v, z⟩
            have x1 := x_pairs (σ := σ) (o := i) (c := n) (L := 4096) (fd38 hs).2 (by omega) (by decide)
            have m1 := m_pairs (μ := μ) (o := 24 * s + i) (c := n) (L := 4096) (by omega) (by decide)
            by_cases qp : PF (μ.2 3) (24 * s + i) 4096 n 0
            · rw [bI_t (hfe.mpr qp)] at x1
              rw [bI_t qp] at m1
              obtain ⟨w, v, hwv⟩ := PF_get qp
              have hx : ∀ j, j < n → σ.2 (55 + 2 * s + 1) (i + 2 * j) = lN (w j) ∧ σ.2 (55 + 2 * s + 1) (i + 2 * j + 1) = lN (v j) := fun j hj => by
                have u1 := g3 (i + 2 * j) (by omega)
                have u2 := g3 (i + 2 * j + 1) (by omega)
                rw [show 56 + 2 * s = 55 + 2 * s + 1 by omega] at u1 u2
                exact ⟨u1.trans ((congrArg _ (by omega)).trans (hwv j hj).2.2.1), u2.trans ((congrArg _ (by omega)).trans (hwv j hj).2.2.2)⟩
              -- one kind, on both sides
              have kx : ∀ kk, 1 ≤ kk ∧ kk ≤ 5 → R_X8_agrees (nI kk) (nI (rng A p)) (55 + 2 * s) (nI i) (nI n) σ (bI (KT A w v n kk p 0)) σ := fun kk hkk => by
                have key : ∀ q, q ≤ n → E_X8_agrees_3 (55 + 2 * s) (nI kk) (nI (rng A p)) (nI i) (nI n) (nI q) σ (bI (KT A w v n kk p q)) σ := by
                  refine loop_up n ?_ (fun q hq ih => ?_)
                  · exact t_X8_agrees_3 (fd38 hs).2 ⟨fun _ => ⟨bI_t (fun j a b => absurd b (by omega)), rfl⟩, fun z => absurd (Int32.le_refl _) z⟩
                  · have hw := (hwv q hq)
                    refine t_X8_agrees_3 (fd38 hs).2 ⟨fun z => absurd z (nI_ge hq (by omega)), fun _ => ?_⟩
                    rw [n2j, n_inc, n_inc, n_N (by omega), n_N (by omega), (hx q hq).1, lN_i]
                    refine ⟨n_in (by omega) (by decide), _, _, x_alone hT i1.1 hkk hp hw.1, n_in (by omega) (by decide), ?_⟩
                    rw [(hx q hq).2, al_eq (al_le _ _ _ _) hw.2.1]
                    refine ⟨fun z => ?_, fun z => ⟨bI_f (fun g => z (g q (Nat.le_refl _) hq)), rfl⟩⟩
                    rw [show bI (KT A w v n kk p q) = bI (KT A w v n kk p (q + 1)) by rw [propext (KT_s z)]]
                    exact ih
                exact t_X8_agrees (fd38 hs).2 (key 0 (Nat.zero_le _))
              have km : ∀ kk, 1 ≤ kk ∧ kk ≤ 5 → ∀ l8 y ν, E_X9_kinds_182 (nI p) (nI n) (nI (24 * s + i)) l8 (nI kk) (bI (KT A w v n kk p 0)) μ y ν → E_X9_kinds_105 (nI p) (nI n) (nI (24 * s + i)) l8 (nI kk) 1 0 μ y ν := fun kk hkk l8 y ν => by
                have key : ∀ q, q ≤ n → (E_X9_kinds_182 (nI p) (nI n) (nI (24 * s + i)) l8 (nI kk) (bI (KT A w v n kk p q)) μ y ν → E_X9_kinds_105 (nI p) (nI n) (nI (24 * s + i)) l8 (nI kk) 1 (nI q) μ y ν) := by
                  refine loop_up n (fun z => ?_) (fun q hq ih z => ?_)
                  · refine t_X9_kinds_105 ⟨fun _ => ?_, fun z => absurd (Int32.le_refl _) z⟩
                    rw [bI_t (show KT A w v n kk p n from fun j a b => absurd b (by omega))] at z; exact z
                  · have hw := (hwv q hq)
                    refine t_X9_kinds_105 ⟨fun z => absurd z (nI_ge hq (by omega)), fun _ => ⟨fun z => absurd z (by decide), fun _ => ?_⟩⟩
                    rw [n2j, n_inc, n_inc, n_N (by omega), n_N (by omega), hw.2.2.1, lN_i]
                    refine ⟨n_in (by omega) (by decide), _, _, m_chordBy (r := 5) rfl i1.2.2.2.1 i1.1 hw.1, _, _, m_alone i1.2.2.2.1 i1.1 hkk hp, n_in (by omega) (by decide), ?_⟩
                    rw [hw.2.2.2, al_eq (al_le _ _ _ _) hw.2.1]
                    refine ⟨fun z2 => ?_, fun z2 => ?_⟩
                    · rw [bI_f (fun g => z2 (g q (Nat.le_refl _) hq))] at z
                      exact t_X9_kinds_105 ⟨fun _ => z, fun _ => ⟨fun _ => z, fun c => absurd rfl c⟩⟩
                    · rw [propext (KT_s z2)] at z
                      exact ih z
                exact key 0 (Nat.zero_le _)
              have lp : ∀ kk, kk ≤ 6 → 1 ≤ kk → ∀ m : Int32, ∃ y, E_X8_kinds_73 (nI p) (nI s) (nI i) (nI n) m (nI kk) σ y σ ∧ E_X9_kinds_93 (nI p) (nI n) (nI (24 * s + i)) m (nI kk) μ y μ := by
                refine loop_up 6 (fun _ m => ?_) (fun kk hkk ih h1 m => ?_)
                · exact ⟨m, t_X8_kinds_73 ⟨fun _ => ⟨rfl, rfl⟩, fun z => absurd (Int32.le_refl _) z⟩, t_X9_kinds_93 ⟨fun _ => ⟨rfl, rfl⟩, fun z => absurd (by decide) z⟩⟩
                · have n6 : ¬ (6 : Int32) ≤ nI kk := nI_ge (b := 6) hkk (by decide)
                  have n5 : ¬ (5 : Int32) < nI kk := nI_nlt (a := 5) (by omega) (by decide)
                  have hr := x_range (v := 3) rfl i1.2.2.1 i1.1 hp
                  by_cases qk : KT A w v n kk p 0
                  · obtain ⟨y, y1, y2⟩ := ih (by omega) (m ||| ((1 : Int32) <<< (nI kk &&& 31)))
                    refine ⟨y, t_X8_kinds_73 ⟨fun z => absurd z n6, fun _ => ⟨_, _, hr, hin, _, fd38' hs, (fd38 hs).2, _, _, kx kk ⟨h1, by omega⟩, ?_⟩⟩, t_X9_kinds_93 ⟨fun z => absurd z n5, fun _ => km kk ⟨h1, by omega⟩ _ _ _ (t_X9_kinds_182 ?_)⟩⟩
                    · rw [bI_t qk, n_inc]; exact ⟨fun z => absurd z (by decide), fun _ => y1⟩
                    · rw [bI_t qk, n_inc]; exact ⟨fun z => absurd z (by decide), fun _ => y2⟩
                  · obtain ⟨y, y1, y2⟩ := ih (by omega) m
                    refine ⟨y, t_X8_kinds_73 ⟨fun z => absurd z n6, fun _ => ⟨_, _, hr, hin, _, fd38' hs, (fd38 hs).2, _, _, kx kk ⟨h1, by omega⟩, ?_⟩⟩, t_X9_kinds_93 ⟨fun z => absurd z n5, fun _ => km kk ⟨h1, by omega⟩ _ _ _ (t_X9_kinds_182 ?_)⟩⟩
                    · rw [bI_f qk, n_inc]; exact ⟨fun _ => y1, fun z => absurd rfl z⟩
                    · rw [bI_f qk, n_inc, or_0]; exact ⟨fun _ => y2, fun z => absurd rfl z⟩
              obtain ⟨y, y1, y2⟩ := lp 1 (by decide) (by decide) 0
              refine ⟨y, σ, μ, t_X8_kinds ⟨fun z => absurd (ea.mpr qa) z, fun _ => ⟨fun z => absurd z e1.1, fun _ => ⟨fun _ => ⟨x, σ, by rw [e2n]; exact r1, fun _ => ⟨hin, _, fd38' hs, (fd38 hs).2, _, _, x1, fun _ => y1, fun z => absurd z (by decide)⟩, fun z => absurd q0 z⟩, fun z => absurd e1.2 z⟩⟩⟩, t_X9_kinds ⟨fun z => absurd (fa.mpr qa) z, fun _ => ⟨fun z => absurd ((iv3 _).mpr qb) z, fun _ => ⟨fun z => absurd ((iv3 _).mpr qc) z, fun _ => ⟨fun _ => ⟨x, μ, by rw [e2n]; exact r2, fun _ => ?_, fun z => absurd q0 z⟩, fun z => absurd qe z⟩⟩⟩⟩, h⟩
              rw [n24]
              exact ⟨_, _, m1, fun _ => y2, fun z => absurd z (by decide)⟩
            · rw [bI_f (fun z => qp (hfe.mp z))] at x1
              rw [bI_f qp] at m1
              refine ⟨-2, σ, μ, t_X8_kinds ⟨fun z => absurd (ea.mpr qa) z, fun _ => ⟨fun z => absurd z e1.1, fun _ => ⟨fun _ => ⟨x, σ, by rw [e2n]; exact r1, fun _ => ⟨hin, _, fd38' hs, (fd38 hs).2, _, _, x1, fun z => absurd rfl z, fun _ => ⟨rfl, rfl⟩⟩, fun z => absurd q0 z⟩, fun z => absurd e1.2 z⟩⟩⟩, t_X9_kinds ⟨fun z => absurd (fa.mpr qa) z, fun _ => ⟨fun z => absurd ((iv3 _).mpr qb) z, fun _ => ⟨fun z => absurd ((iv3 _).mpr qc) z, fun _ => ⟨fun _ => ⟨x, μ, by rw [e2n]; exact r2, fun _ => ?_, fun z => absurd q0 z⟩, fun z => absurd qe z⟩⟩⟩⟩, h⟩
              rw [n24]
              exact ⟨_, _, m1, fun z => absurd rfl z, fun _ => ⟨rfl, rfl⟩⟩
          · exact ⟨x, σ, μ, t_X8_kinds ⟨fun z => absurd (ea.mpr qa) z, fun _ => ⟨fun z => absurd z e1.1, fun _ => ⟨fun _ => ⟨x, σ, by rw [e2n]; exact r1, fun z => absurd z q0, fun _ => ⟨rfl, rfl⟩⟩, fun z => absurd e1.2 z⟩⟩⟩, t_X9_kinds ⟨fun z => absurd (fa.mpr qa) z, fun _ => ⟨fun z => absurd ((iv3 _).mpr qb) z, fun _ => ⟨fun z => absurd ((iv3 _).mpr qc) z, fun _ => ⟨fun _ => ⟨x, μ, by rw [e2n]; exact r2, fun z => absurd z q0, fun _ => ⟨rfl, rfl⟩⟩, fun z => absurd qe z⟩⟩⟩⟩, h⟩
        · exact ⟨-1, σ, μ, t_X8_kinds ⟨fun z => absurd (ea.mpr qa) z, fun _ => ⟨fun z => absurd z e1.1, fun _ => ⟨fun _ => ⟨-1, σ, t_X8_refusal ⟨fun _ => ⟨rfl, rfl⟩, fun _ => ⟨fun z => absurd ((wn4 _).mp z) qc, fun _ => ⟨rfl, rfl⟩⟩⟩, fun z => absurd z (by decide), fun _ => ⟨rfl, rfl⟩⟩, fun z => absurd e1.2 z⟩⟩⟩, t_X9_kinds ⟨fun z => absurd (fa.mpr qa) z, fun _ => ⟨fun z => absurd ((iv3 _).mpr qb) z, fun _ => ⟨fun _ => ⟨rfl, rfl⟩, fun z => absurd ((iv3 _).mp z) qc⟩⟩⟩, h⟩
      · exact ⟨-1, σ, μ, t_X8_kinds ⟨fun z => absurd (ea.mpr qa) z, fun _ => ⟨fun z => absurd z e1.1, fun _ => ⟨fun _ => ⟨-1, σ, t_X8_refusal ⟨fun _ => ⟨rfl, rfl⟩, fun z => absurd ((wn4 _).mp z) qb⟩, fun z => absurd z (by decide), fun _ => ⟨rfl, rfl⟩⟩, fun z => absurd e1.2 z⟩⟩⟩, t_X9_kinds ⟨fun z => absurd (fa.mpr qa) z, fun _ => ⟨fun _ => ⟨rfl, rfl⟩, fun z => absurd ((iv3 _).mp z) qb⟩⟩, h⟩
    · have e1 : ¬ e < 1 → ¬ e ≤ 6 := by
        intro z z2
        rw [lt_I] at z; rw [le_I] at z2
        exact qe ⟨by omega, z2⟩
      exact ⟨-1, σ, μ, t_X8_kinds ⟨fun _ => ⟨rfl, rfl⟩, fun _ => ⟨fun _ => ⟨rfl, rfl⟩, fun z => ⟨fun z2 => absurd z2 (e1 z), fun _ => ⟨rfl, rfl⟩⟩⟩⟩, t_X9_kinds ⟨fun _ => ⟨rfl, rfl⟩, fun _ => ⟨fun _ => ⟨rfl, rfl⟩, fun _ => ⟨fun _ => ⟨rfl, rfl⟩, fun _ => ⟨fun z => absurd z qe, fun _ => ⟨rfl, rfl⟩⟩⟩⟩⟩, h⟩
  · exact ⟨-1, σ, μ, t_X8_kinds ⟨fun _ => ⟨rfl, rfl⟩, fun z => absurd (ea.mp z) qa⟩, t_X9_kinds ⟨fun _ => ⟨rfl, rfl⟩, fun z => absurd (fa.mp z) qa⟩, h⟩
