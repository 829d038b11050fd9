/-! what a crowd is worth -/
def efG (A : Nat → Nat) (N G : Nat) : Nat := sumF (A 3) (fun i => if G.testBit i = true ∧ sng A N G i ≠ 12 then eff (A (13 + i)) else 0)
theorem x_effort {A : Nat → Nat} {N G : Nat} {σ : kS} (hx : vx 3 σ A) (hW : WF A) (hG : G < 32) (h : ∀ i, i < A 3 → G.testBit i = true → σ.1 28 i = nI (sng A N G i)) : R_X1_effortOf 3 (nI G) σ (nI (efG A N G)) σ := by
  have hc := wfc hW
  have key : ∀ i, i ≤ A 3 → E_X1_effortOf_5 3 (nI G) (nI (sumF i (fun i => if G.testBit i = true ∧ sng A N G i ≠ 12 then eff (A (13 + i)) else 0))) (nI i) σ (nI (efG A N G)) σ := by
    refine loop_up (A 3) ?_ (fun i hi ih => ?_)
    · exact t_X1_effortOf_5 rfl ⟨fun _ => ⟨rfl, rfl⟩, fun z => absurd (by rw [hx.1.2.2.1]; exact Int32.le_refl _) z⟩
    · have hk := (hW.2.2.2.2.2 i hi).1
      have hs : sumF (i + 1) (fun i => if G.testBit i = true ∧ sng A N G i ≠ 12 then eff (A (13 + i)) else 0) = sumF i (fun i => if G.testBit i = true ∧ sng A N G i ≠ 12 then eff (A (13 + i)) else 0) + (if G.testBit i = true ∧ sng A N G i ≠ 12 then eff (A (13 + i)) else 0) := rfl
      have hl := sng_le A N G i
      refine t_X1_effortOf_5 rfl ⟨fun z => absurd z (by rw [hx.1.2.2.1]; exact nI_ge hi (by omega)), fun _ => ?_⟩
      rw [n_hs (by omega) (by omega), n_inc]
      refine ⟨fun z => ?_, fun z => ?_⟩
      · rw [hs, if_neg (fun c => z c.1), Nat.add_zero] at ih; exact ih
      · rw [n_N (by omega), h i hi z]
        have e12 : (nI (sng A N G i) = 12 ↔ sng A N G i = 12) := nI_eq (b := 12) (by omega) (by decide)
        refine ⟨n_in (by omega) (by decide), fun y => ?_, fun y => ⟨n_in (by omega) (by decide), ?_⟩⟩
        · rw [hs, if_neg (fun c => c.2 (e12.mp y)), Nat.add_zero] at ih; exact ih
        · rw [(hx.2.2.2 i hi).1, n_N (by omega), n_ef (by omega), nI_add]
          rw [hs, if_pos ⟨z, fun c => y (e12.mpr c)⟩] at ih
          exact ⟨n_in (by omega) (by decide), ih⟩
  exact t_X1_effortOf rfl (key 0 (Nat.zero_le _))
def wv (A : Nat → Nat) (f G : Nat) : Int32 := nI (16 * fuN A (A (8 + f)) G) - nI (efG A (A (8 + f)) G)
theorem n32 (f G : Nat) : nI f * 32 + nI G = nI (32 * f + G) := by rw [show (32 : Int32) = nI 32 from rfl, pk_mul, nI_add, Nat.mul_comm]
theorem x_weigh {A : Nat → Nat} {σ : kS} (hx : vx 3 σ A) (hT : CT σ A) (hW : WF A) : ∃ τ, R_X5_weigh σ τ ∧ fr [28, 30] σ τ ∧ ∀ f, f < A 2 → ∀ G, G < 2 ^ A 3 → τ.1 30 (32 * f + G) = wv A f G := by
  have hc := wfc hW
  have hp5 : 2 ^ A 3 ≤ 2 ^ 5 := Nat.pow_le_pow_right (by decide) (by omega)
  have lf : ∀ f, f ≤ A 2 → ∀ σ', fr [28, 30] σ σ' → (∀ g, g < f → ∀ G, G < 2 ^ A 3 → σ'.1 30 (32 * g + G) = wv A g G) → ∃ τ, E_X5_weigh_2 (nI f) σ' τ ∧ fr [28, 30] σ τ ∧ ∀ f, f < A 2 → ∀ G, G < 2 ^ A 3 → τ.1 30 (32 * f + G) = wv A f G := by
    refine loop_up (A 2) (fun σ' fr0 g => ?_) (fun f hf ih σ' fr0 g => ?_)
    · refine ⟨σ', t_X5_weigh_2 ⟨fun _ => rfl, fun z => absurd ?_ z⟩, fr0, g⟩
      rw [(fr0 3 (by decide)).1, hx.1.2.1]; exact Int32.le_refl _
    · have lg : ∀ G, G ≤ 2 ^ A 3 → ∀ σ'', fr [28, 30] σ σ'' → (∀ g, g < f → ∀ G, G < 2 ^ A 3 → σ''.1 30 (32 * g + G) = wv A g G) → (∀ H, H < G → σ''.1 30 (32 * f + H) = wv A f H) → ∃ τ, E_X5_weigh_13 (nI f) (nI G) σ'' τ ∧ fr [28, 30] σ τ ∧ ∀ f, f < A 2 → ∀ G, G < 2 ^ A 3 → τ.1 30 (32 * f + G) = wv A f G := by
        refine loop_up (2 ^ A 3) (fun σ'' f2 g2 g3 => ?_) (fun G hG ih2 σ'' f2 g2 g3 => ?_)
        · have e2 : σ''.1 3 2 = nI (A 3) := by rw [(f2 3 (by decide)).1]; exact hx.1.2.2.1
          obtain ⟨τ, j1, j2⟩ := ih σ'' f2 (fun g hg G hG => by
            by_cases z : g = f
            · rw [z]; exact g3 G hG
            · exact g2 g (by omega) G hG)
          refine ⟨τ, t_X5_weigh_13 ⟨fun _ => by rw [n_inc]; exact j1, fun z => absurd ?_ z⟩, j2⟩
          rw [e2, n_one _ (by omega)]; exact Int32.le_refl _
        · have e2 : σ''.1 3 2 = nI (A 3) := by rw [(f2 3 (by decide)).1]; exact hx.1.2.2.1
          have hx2 : vx 3 σ'' A := vx_kp hx (fun k a b => (f2 k (by simp; omega)).1)
          have hT2 : CT σ'' A := CT_o hT (f2 25 (by decide)).1 (f2 26 (by decide)).1
          have hs := x_sing (v := 3) (w := G) rfl hx2 hT2 hW hf (by omega)
          have hu : fr [28] σ'' (xsU A (A (8 + f)) G σ'') := fr_up (by simp)
          have he : R_X1_effortOf 3 (nI G) (xsU A (A (8 + f)) G σ'') (nI (efG A (A (8 + f)) G)) (xsU A (A (8 + f)) G σ'') := by
            refine x_effort (vx_kp hx2 (fun k a b => (hu k (by simp; omega)).1)) hW (by omega) (fun i hi hb => ?_)
            show (if 28 = 28 ∧ i < A 3 ∧ G.testBit i = true then nI (sng A (A (8 + f)) G i) else σ''.1 28 i) = _
            rw [if_pos ⟨rfl, hi, hb⟩]
          obtain ⟨τ, j1, j2⟩ := ih2 (k_si (xsU A (A (8 + f)) G σ'') 30 (32 * f + G) (wv A f G)) (fr_tr f2 (fr_tr (fr_mo hu (by decide)) (fr_si (by decide)))) (fun g hg H hH => by
            rw [s_i, if_pos rfl, if_neg (by omega), (hu 30 (by decide)).1]; exact g2 g hg H hH) (fun H hH => by
            rw [s_i, if_pos rfl]
            by_cases z : H = G
            · rw [if_pos (by omega), z]
            · rw [if_neg (by omega), (hu 30 (by decide)).1]; exact g3 H (by omega))
          have e41 : E_X5_weigh_41 (nI f) (nI G) (nI (16 * fuN A (A (8 + f)) G)) (xsU A (A (8 + f)) G σ'') τ := by
            refine t_X5_weigh_41 ⟨_, _, he, ?_⟩
            rw [n32, n_N (by omega), n_inc]
            exact ⟨n_in (by omega) (by decide), j1⟩
          refine ⟨τ, t_X5_weigh_13 ⟨fun z => absurd z (by rw [e2, n_one _ (by omega)]; exact nI_ge hG (by omega)), fun _ => ⟨_, _, hs, fun z => ?_, fun z => ?_⟩⟩, j2⟩
          · rw [bN_0] at z
            rw [show fuN A (A (8 + f)) G = 0 by unfold fuN; rw [z]; rfl] at e41
            exact e41
          · have z' : ful A (A (8 + f)) G = true := by
              cases hb : ful A (A (8 + f)) G with
              | true => rfl
              | false => exact absurd (bN_0.mpr hb) z
            rw [show fuN A (A (8 + f)) G = 1 by unfold fuN; rw [z']; rfl] at e41
            exact e41
      obtain ⟨τ, j1, j2⟩ := lg 0 (Nat.zero_le _) σ' fr0 g (fun H hH => absurd hH (by omega))
      refine ⟨τ, t_X5_weigh_2 ⟨fun z => absurd z ?_, fun _ => j1⟩, j2⟩
      rw [(fr0 3 (by decide)).1, hx.1.2.1]; exact nI_ge hf (by omega)
  obtain ⟨τ, j1, j2⟩ := lf 0 (Nat.zero_le _) σ fr_rf (fun g hg => absurd hg (by omega))
  exact ⟨τ, t_X5_weigh j1, j2⟩
def fuS (A : Nat → Nat) (P : Nat → Nat) : Nat := sumF (A 2) (fun f => fuN A (A (8 + f)) (crw (A 3) P f))
def efS (A : Nat → Nat) (P : Nat → Nat) : Nat := sumF (A 2) (fun f => efG A (A (8 + f)) (crw (A 3) P f))
theorem sub4 (x y z w : Int32) : (x - y) + (z - w) = (x + z) - (y + w) := by
  rw [Int32.sub_eq_add_neg, Int32.sub_eq_add_neg, Int32.sub_eq_add_neg, Int32.neg_add, Int32.sub_eq_add_neg]; ac_rfl
theorem x_worth {A : Nat → Nat} {P : Nat → Nat} {σ : kS} (hW : WF A) (h5 : σ.1 29 5 = nI (A 2)) (ho : ODs (A 2) (A 3) P σ) (hw : ∀ f, f < A 2 → ∀ G, G < 2 ^ A 3 → σ.1 30 (32 * f + G) = wv A f G) : R_X5_worthOfAll σ (nI (16 * fuS A P) - nI (efS A P)) σ := by
  have hc := wfc hW
  have hp5 : 2 ^ A 3 ≤ 2 ^ 5 := Nat.pow_le_pow_right (by decide) (by omega)
  have key : ∀ f, f ≤ A 2 → E_X5_worthOfAll_4 (nI (16 * sumF f (fun f => fuN A (A (8 + f)) (crw (A 3) P f))) - nI (sumF f (fun f => efG A (A (8 + f)) (crw (A 3) P f)))) (nI f) σ (nI (16 * fuS A P) - nI (efS A P)) σ := by
    refine loop_up (A 2) ?_ (fun f hf ih => ?_)
    · exact t_X5_worthOfAll_4 ⟨fun _ => ⟨rfl, rfl⟩, fun z => absurd (by rw [h5]; exact Int32.le_refl _) z⟩
    · have hcr := crw_lt (A 3) P f
      refine t_X5_worthOfAll_4 ⟨fun z => absurd z (by rw [h5]; exact nI_ge hf (by omega)), fun _ => ⟨n_in (by omega) (by decide), ?_⟩⟩
      rw [n_N (by omega), ho.2 f (by omega), n32, n_N (by omega), hw f hf _ hcr, n_inc]
      refine ⟨n_in (by omega) (by decide), ?_⟩
      unfold wv
      rw [sub4, nI_add, nI_add, ← Nat.mul_add]
      exact ih
  have k0 := key 0 (Nat.zero_le _)
  change E_X5_worthOfAll_4 (nI (16 * 0) - nI 0) (nI 0) σ _ σ at k0
  rw [show nI (16 * 0) - nI 0 = (0 : Int32) by decide +kernel] at k0
  exact t_X5_worthOfAll k0
