/-! singing in a field, and in all -/
def k_up (σ : kS) (c n : Nat) (P : Nat → Bool) (g : Nat → Nat) : kS := (fun a b => if a = c ∧ b < n ∧ P b = true then nI (g b) else σ.1 a b, σ.2)
theorem k_up_0 {σ : kS} {c : Nat} {P : Nat → Bool} {g : Nat → Nat} : k_up σ c 0 P g = σ := by
  refine Prod.ext ?_ rfl
  funext a b; simp [k_up]
theorem k_up_t {σ : kS} {c n : Nat} {P : Nat → Bool} {g : Nat → Nat} (h : P n = true) : k_si (k_up σ c n P g) c n (nI (g n)) = k_up σ c (n + 1) P g := by
  refine Prod.ext ?_ rfl
  funext a b
  simp only [s_i, k_up]
  by_cases ha : a = c <;> by_cases hb : b = n
  · subst hb; simp [ha, h]
  · have : (b < n + 1) = (b < n) := by simp; omega
    simp [ha, hb, this]
  · simp [ha]
  · simp [ha]
theorem k_up_f {σ : kS} {c n : Nat} {P : Nat → Bool} {g : Nat → Nat} (h : P n = false) : k_up σ c (n + 1) P g = k_up σ c n P g := by
  refine Prod.ext ?_ rfl
  funext a b
  simp only [k_up]
  by_cases hb : b = n
  · subst hb; simp [h]
  · have : (b < n + 1) = (b < n) := by simp; omega
    simp [this]
theorem k_up_o {σ : kS} {c n a : Nat} {P : Nat → Bool} {g : Nat → Nat} (h : a ≠ c) : (k_up σ c n P g).1 a = σ.1 a := by
  funext b; simp [k_up, h]
theorem fr_up {L : List Nat} {σ : kS} {c n : Nat} {P : Nat → Bool} {g : Nat → Nat} (h : c ∈ L) : fr L σ (k_up σ c n P g) := fun k hk => ⟨k_up_o (fun e => hk (e ▸ h)), rfl⟩
theorem k_si_si {σ : kS} {c i : Nat} {v w : Int32} : k_si (k_si σ c i v) c i w = k_si σ c i w := by
  refine Prod.ext ?_ rfl
  funext a b
  simp only [s_i]
  by_cases ha : a = c <;> by_cases hb : b = i <;> simp [ha, hb]
theorem k_si_at {σ : kS} {c i : Nat} {v : Int32} : (k_si σ c i v).1 c i = v := by simp [s_i]
theorem vx_o {v c : Nat} {σ τ : kS} {A : Nat → Nat} (hv : k_vly v = true) (h : vx v σ A) (hc : fr [28] σ τ) : vx v τ A := by
  refine vx_kp h (fun k h1 h2 => (hc k ?_).1)
  have := vl_c hv
  simp; omega
theorem CT_o {σ τ : kS} {A : Nat → Nat} (h : CT σ A) (h1 : τ.1 25 = σ.1 25) (h2 : τ.1 26 = σ.1 26) : CT τ A := by
  unfold CT; rw [h1, h2]; exact h
theorem sm_none {A : Nat → Nat} {n w : Nat} (h : chd A n = none) : ∀ i, sm A n w i = 0
  | 0 => by unfold sm mis; rw [h]
  | i + 1 => by
    rw [sm, sm_none h i]
    split
    · exact Nat.le_zero.mp (nd_le _ _)
    · rfl
theorem sv_12 {A : Nat → Nat} {n w i : Nat} (h : chd A n = none) : sv A n w i = 12 := by
  unfold sv; rw [sm_none h, Nat.zero_and]; rfl
theorem sm_t {A : Nat → Nat} {n w i : Nat} (h : act A w i = true) : sm A n w (i + 1) = nd (sm A n w i) (2 ^ sv A n w i) := by rw [sm, if_pos h]; rfl
theorem sm_f {A : Nat → Nat} {n w i : Nat} (h : act A w i = false) : sm A n w (i + 1) = sm A n w i := by rw [sm, h]; simp
theorem and4096 {a b : Nat} (h : a < 4096) : a &&& b < 4096 := and_lt h
def siI (A : Nat → Nat) (n w : Nat) : Int32 := if (chd A n).isSome then nI (sm A n w (A 3)) else -1
def siU (A : Nat → Nat) (n w : Nat) (σ : kS) : kS := k_up σ 11 (if (chd A n).isSome then A 3 else 0) (act A w) (sv A n w)
theorem m_singIn {r f w : Nat} {σ : kS} {A : Nat → Nat} (hr : k_is SM r 1 38 = true) (h11 : r ≠ 11) (h : mr r σ A) (hW : WF A) (hf : f < A 2) (hw : w < 32) : R_X9_singIn r (nI f) (nI w) σ (siI A (A (8 + f)) w) (siU A (A (8 + f)) w σ) := by
  have h2 := (wfc hW).2.1
  have h3 := (wfc hW).2.2
  have h1 := (wfc hW).1
  have hn := hW.2.2.2.2.1 f hf
  refine t_X9_singIn hr ?_
  generalize hnn : A (8 + f) = n at hn
  rw [show (8 : Int32) = nI 8 from rfl, nI_add, n_N (by omega), mr_n h (show 8 + f < 33 by omega), hnn]
  refine ⟨n_in (by omega) (by decide), _, _, m_chordBy hr h hW hn, ?_⟩
  cases hc : chd A n with
  | none => exact ⟨fun q => absurd q cI_neg, fun _ => ⟨by unfold siI; rw [hc]; rfl, by unfold siU; rw [hc]; exact k_up_0⟩⟩
  | some c =>
    have hcl := chd_b hW n c hc
    refine ⟨fun _ => ⟨n_in (by omega) (by decide), ?_⟩, fun q => absurd (cI_pos (by omega)) q⟩
    have hm := m_missingBy (n := n) hr h hW
    rw [hc] at hm
    rw [mr_n h (show 8 + f < 33 by omega), hnn]
    refine ⟨_, _, hm, ?_⟩
    have e1 : siI A n w = nI (sm A n w (A 3)) := by unfold siI; rw [hc]; rfl
    have e2 : siU A n w σ = k_up σ 11 (A 3) (act A w) (sv A n w) := by unfold siU; rw [hc]; rfl
    rw [e1, e2]
    have key : ∀ i, i ≤ A 3 → E_X9_singIn_36 r (nI w) (cI (some c)) (nI (sm A n w i)) (nI i) (k_up σ 11 i (act A w) (sv A n w)) (nI (sm A n w (A 3))) (k_up σ 11 (A 3) (act A w) (sv A n w)) := by
      refine loop_up (A 3) ?_ (fun i hi ih => ?_)
      · refine t_X9_singIn_36 hr ⟨fun _ => ⟨rfl, rfl⟩, fun q => absurd ?_ q⟩
        rw [k_up_o h11, mr_n h (by decide)]; exact Int32.le_refl _
      · have hm2 : mr r (k_up σ 11 i (act A w) (sv A n w)) A := mr_kp h (k_up_o h11)
        refine t_X9_singIn_36 hr ⟨fun q => absurd ((n_le (by omega) (by omega)).mp (mr_n hm2 (show 3 < 33 by decide) ▸ q)) (by omega), fun _ => ?_⟩
        obtain ⟨hk, hlh, ht, hp⟩ := hW.2.2.2.2.2 i hi
        rw [n_hs (by omega) (by omega), show (28 : Int32) = nI 28 from rfl, nI_add, n_N (by omega), mr_n hm2 (show 28 + i < 33 by omega), show (8 : Int32) = nI 8 from rfl, n_le (a := 8) (by decide) (by omega), n_inc, show (13 : Int32) = nI 13 from rfl, nI_add, n_N (by omega), mr_n hm2 (show 13 + i < 33 by omega), n_N (by omega)]
        refine ⟨fun q => ?_, fun q => ⟨n_in (by omega) (by decide), fun q2 => ?_, fun q2 => ⟨n_in (by omega) (by decide), _, _, m_rangeOf hr hm2 hW hi, ?_⟩⟩⟩
        · have ha : act A w i = false := by unfold act; simp at q; simp [q]
          rw [k_up_f ha, sm_f ha] at ih
          exact ih
        · have ha : act A w i = false := by unfold act; simp; intro _; omega
          rw [k_up_f ha, sm_f ha] at ih
          exact ih
        · have ha : act A w i = true := by unfold act; simp [q]; omega
          have hsl := sm_lt (A := A) n w i
          have hrt : c % 12 = rtn A n := by unfold rtn; rw [hc]; rfl
          rw [n_and, cI_some, n_rem (by omega), hrt]
          refine ⟨_, _, m_singsOf hk (and4096 hsl) (rtn_lt A n), n_in (by omega) (by decide), ?_⟩
          rw [sm_t ha, ← k_up_t ha] at ih
          have hv := sv_le A n w i
          have e : chN (A (13 + i)) (rtn A n) (sm A n w i &&& rng A i) = sv A n w i := rfl
          rw [e, show (12 : Int32) = nI 12 from rfl, nI_eq (by omega) (by decide)]
          refine ⟨fun z => ?_, fun z => ?_⟩
          · rw [n_one _ (by omega), n_nd]
            exact ih
          · rw [z, nd_p hsl (Nat.le_refl _)] at ih
            rw [z]
            exact ih
    have := key 0 (Nat.zero_le _)
    rw [k_up_0, nI_0] at this
    exact this
def xsU (A : Nat → Nat) (n w : Nat) (σ : kS) : kS := k_up σ 28 (A 3) (fun i => w.testBit i) (sng A n w)
set_option maxHeartbeats 1000000 in
theorem x_sing {v f w : Nat} {σ : kS} {A : Nat → Nat} (hv : k_vly v = true) (h : vx v σ A) (hT : CT σ A) (hW : WF A) (hf : f < A 2) (hw : w < 32) : R_X1_sing v (nI f) (nI w) σ (bN (ful A (A (8 + f)) w)) (xsU A (A (8 + f)) w σ) := by
  have h2 := (wfc hW).2.1
  have h3 := (wfc hW).2.2
  have hn := hW.2.2.2.2.1 f hf
  refine t_X1_sing hv ?_
  generalize hnn : A (8 + f) = n at hn
  rw [n_N (by omega), h.2.2.1 f hf, hnn]
  refine ⟨n_in (by omega) (by decide), _, _, x_rested hv h hW, _, _, x_missingOf hT hW hn, ?_⟩
  rw [n_and]
  have hab : ∀ i, i < A 3 → (w &&& rst A).testBit i = act A w i := fun i hi => by
    rw [Nat.testBit_and, rst, orF_bit]; simp [hi, act]
  have key : ∀ i, i ≤ A 3 → E_X1_sing_30 v (nI w) (nI n) (nI (w &&& rst A)) (nI (sm A n w i)) (nI i) (k_up σ 28 i (fun i => w.testBit i) (sng A n w)) (bN (ful A n w)) (xsU A n w σ) := by
    refine loop_up (A 3) ?_ (fun i hi ih => ?_)
    · have hf28 : fr [28] σ (k_up σ 28 (A 3) (fun i => w.testBit i) (sng A n w)) := fr_up (by simp)
      have hT2 : CT (k_up σ 28 (A 3) (fun i => w.testBit i) (sng A n w)) A := CT_o hT (k_up_o (by decide)) (k_up_o (by decide))
      refine t_X1_sing_30 hv ⟨fun _ => ⟨_, _, x_isThere hT2 hW hn, ?_⟩, fun q => absurd ?_ q⟩
      · rw [bN_0, n_eq0 (by have := sm_lt (A := A) n w (A 3); omega)]
        unfold ful
        refine ⟨fun q => ⟨by rw [q]; rfl, rfl⟩, fun q => ?_⟩
        have q : (chd A n).isSome = true := (Bool.not_eq_false _).mp q
        rw [q]
        exact ⟨fun z => ⟨by rw [decide_eq_false z]; rfl, rfl⟩, fun z => ⟨by rw [decide_eq_true z]; rfl, rfl⟩⟩
      · rw [(vx_o (c := 28) hv h hf28).1.2.2.1]; exact Int32.le_refl _
    · have hf28 : fr [28] σ (k_up σ 28 i (fun i => w.testBit i) (sng A n w)) := fr_up (by simp)
      have hx2 := vx_o (c := 28) hv h hf28
      have hT2 : CT (k_up σ 28 i (fun i => w.testBit i) (sng A n w)) A := CT_o hT (k_up_o (by decide)) (k_up_o (by decide))
      refine t_X1_sing_30 hv ⟨fun q => absurd ((n_le (by omega) (by omega)).mp (hx2.1.2.2.1 ▸ q)) (by omega), fun _ => ?_⟩
      rw [n_hs (by omega) (by omega), n_N (by omega)]
      refine ⟨fun q => ?_, fun q => ⟨n_in (by omega) (by decide), ?_⟩⟩
      · have ha : act A w i = false := by unfold act; simp at q; simp [q]
        refine t_X1_sing_57 hv ⟨fun _ => ?_, fun z => ?_⟩
        · rw [n_inc]
          rw [k_up_f (P := fun i => w.testBit i) (by simpa using q), sm_f ha] at ih
          exact ih
        · rw [n_hs (by have := and_lt (b := rst A) hw; omega) (by omega), hab i hi, ha] at z
          cases z
      · rw [← k_up_t (P := fun i => w.testBit i) (g := sng A n w) q] at ih
        have hf2 : fr [28] σ (k_si (k_up σ 28 i (fun i => w.testBit i) (sng A n w)) 28 i 12) := fr_tr hf28 (fr_si (by simp))
        have hx3 := vx_o (c := 28) hv h hf2
        have hT3 : CT (k_si (k_up σ 28 i (fun i => w.testBit i) (sng A n w)) 28 i 12) A := CT_o hT2 (k_si_o (by decide)) (k_si_o (by decide))
        obtain ⟨hk, hlh, ht, hp⟩ := hW.2.2.2.2.2 i hi
        have hsl := sm_lt (A := A) n w i
        refine t_X1_sing_57 hv ?_
        rw [n_hs (by have := and_lt (b := rst A) hw; omega) (by omega), hab i hi, n_N (by omega), (hx3.2.2.2 i hi).1, n_inc]
        refine ⟨fun z => ?_, fun z => ⟨n_in (by omega) (by decide), _, _, x_rootOf hT3 hW hn, _, _, x_range hv hx3 hW hi, ?_⟩⟩
        · have ha : act A w i = false := by simpa using z
          have e12 : sng A n w i = 12 := by unfold sng; rw [ha]; rfl
          rw [sm_f ha, e12] at ih
          exact ih
        · rw [n_and]
          refine ⟨_, _, x_choose (r := rtn A n) hk (and4096 hsl) (rtn_lt A n) (fun h0 => ?_), n_in (by omega) (by decide), n_in (by omega) (by decide), ?_⟩
          · cases hc : chd A n with
            | none => rw [sm_none hc, Nat.zero_and] at h0; exact absurd rfl h0
            | some c => unfold rtn; rw [hc]; rfl
          · have e : chN (A (13 + i)) (rtn A n) (sm A n w i &&& rng A i) = sv A n w i := rfl
            have hvl := sv_le A n w i
            have e3 : sng A n w i = sv A n w i := by unfold sng; rw [z]; rfl
            rw [e, k_si_at, k_si_si, n_one _ (by omega), n_nd]
            rw [sm_t z, e3] at ih
            exact ih
  have := key 0 (Nat.zero_le _)
  rw [k_up_0, nI_0] at this
  exact this
