/-! the reference's way to stand -/
def cfK (A P : Nat → Nat) (k j : Nat) : Nat := if 33 + k ≤ j ∧ j < 33 + A 3 then (if P (j - 33) = A 2 then 9 else P (j - 33)) else A j
theorem cfK_o {A P : Nat → Nat} {k j : Nat} (h : j < 33) : cfK A P k j = A j := by unfold cfK; rw [if_neg (by omega)]
theorem cfK_p {A P : Nat → Nat} {i : Nat} (h : i < A 3) : cfK A P 0 (33 + i) = if P i = A 2 then 9 else P i := by
  unfold cfK; rw [if_pos (by omega), show 33 + i - 33 = i by omega]
theorem cfK_k {A P : Nat → Nat} {k : Nat} (h : k < A 3) : cfK A P k (33 + k) = if P k = A 2 then 9 else P k := by
  unfold cfK; rw [if_pos (by omega), show 33 + k - 33 = k by omega]
theorem cfK_n {A P : Nat → Nat} {k j : Nat} (h : ¬ j = 33 + k) : cfK A P k j = cfK A P (k + 1) j := by
  unfold cfK
  by_cases y : 33 + k ≤ j ∧ j < 33 + A 3
  · rw [if_pos y, if_pos (show 33 + (k + 1) ≤ j ∧ j < 33 + A 3 by omega)]
  · rw [if_neg y, if_neg (show ¬ (33 + (k + 1) ≤ j ∧ j < 33 + A 3) by omega)]
theorem cfK_wf {A P : Nat → Nat} (hW : WF A) (hP : ∀ i, P i ≤ A 2) : WF (cfK A P 0) := by
  have hc := wfc hW
  unfold WF
  rw [cfK_o (show 0 < 33 by decide), cfK_o (show 1 < 33 by decide), cfK_o (show 2 < 33 by decide), cfK_o (show 3 < 33 by decide)]
  refine ⟨hW.1, hW.2.1, hW.2.2.1, fun i hi => ?_, fun i hi => ?_, fun i hi => ?_⟩
  · rw [cfK_o (by omega)]; exact hW.2.2.2.1 i hi
  · rw [cfK_o (by omega)]; exact hW.2.2.2.2.1 i hi
  · rw [cfK_o (by omega), cfK_o (by omega), cfK_o (by omega), cfK_o (by omega), cfK_p hi]
    obtain ⟨a, b, c, d⟩ := hW.2.2.2.2.2 i hi
    refine ⟨a, b, c, ?_⟩
    have := hP i
    by_cases q : P i = A 2
    · rw [if_pos q]; exact Or.inr rfl
    · rw [if_neg q]; exact Or.inl (by omega)
theorem cfK_sh {A P : Nat → Nat} (hW : WF A) : sh A (cfK A P 0) := by
  have hc := wfc hW
  exact ⟨(cfK_o (by decide)).symm, fun i hi => (cfK_o (by omega)).symm⟩
theorem cf_who {A P : Nat → Nat} {f : Nat} (hW : WF A) (hf : f < A 2) : who (cfK A P 0) f = crw (A 3) P f := by
  have hc := wfc hW
  unfold who
  rw [cfK_o (show 3 < 33 by decide)]
  refine orF_congr _ (fun i hi => ?_)
  rw [cfK_p hi]
  by_cases q : P i = A 2
  · rw [if_pos q, q]; simp [show ¬ 9 = f by omega, show ¬ A 2 = f by omega]
  · rw [if_neg q]
theorem mis_sh {A B : Nat → Nat} (h : sh A B) (n : Nat) : mis A n = mis B n := by
  unfold mis
  rw [← chd_sh h]
  cases hc : chd A n with
  | none => rfl
  | some c => show nd (crd A c) n = nd (crd B c) n; rw [crd_sh h (chd_lt hc).1]
theorem rtn_sh {A B : Nat → Nat} (h : sh A B) (n : Nat) : rtn A n = rtn B n := by unfold rtn; rw [← chd_sh h]
theorem sm_sh {A B : Nat → Nat} (h : sh A B) (h2 : ∀ j, j < 33 → B j = A j) (n w : Nat) : ∀ i, i ≤ 5 → sm B n w i = sm A n w i
  | 0, _ => (mis_sh h n).symm
  | i + 1, hi => by
    have ih := sm_sh h h2 n w i (by omega)
    unfold sm act rng
    rw [ih, ← rtn_sh h, h2 (28 + i) (by omega), h2 (13 + i) (by omega), h2 (23 + i) (by omega), h2 (18 + i) (by omega)]
theorem sng_sh {A B : Nat → Nat} (h : sh A B) (h2 : ∀ j, j < 33 → B j = A j) (n w : Nat) {i : Nat} (hi : i < 5) : sng B n w i = sng A n w i := by
  unfold sng sv act rng
  rw [sm_sh h h2 n w i (by omega), ← rtn_sh h, h2 (28 + i) (by omega), h2 (13 + i) (by omega), h2 (23 + i) (by omega), h2 (18 + i) (by omega)]
theorem ful_sh {A B : Nat → Nat} (h : sh A B) (h2 : ∀ j, j < 33 → B j = A j) (hW : WF A) (n w : Nat) : ful B n w = ful A n w := by
  have hc := wfc hW
  unfold ful
  rw [← chd_sh h, h2 3 (by decide), sm_sh h h2 n w (A 3) (by omega)]
theorem popL_or2 (P : Nat → Bool) (n : Nat) : ∀ m, m ≤ n → popL m (orF n P) = sumF m (fun i => if P i then 1 else 0)
  | 0, _ => rfl
  | m + 1, h => by
    unfold popL
    rw [popL_or2 P n m (by omega), tb_mod, orF_bit]
    show _ = sumF m _ + _
    simp [show m < n by omega]
theorem cf_ful {A P : Nat → Nat} (hW : WF A) : pop (fuA (cfK A P 0)) = fuS A P := by
  have hc := wfc hW
  unfold fuA
  rw [cfK_o (show 2 < 33 by decide), pop_n (orF_lt _ _) (by omega), popL_or2 _ _ _ (Nat.le_refl _)]
  refine sumF_congr _ (fun f hf => ?_)
  rw [cfK_o (show 8 + f < 33 by omega), cf_who hW hf, ful_sh (cfK_sh hW) (fun j hj => cfK_o hj) hW]
  rfl
theorem sumF_swap (h : Nat → Nat → Nat) (n : Nat) : ∀ m, sumF m (fun f => sumF n (fun i => h f i)) = sumF n (fun i => sumF m (fun f => h f i))
  | 0 => by
    show 0 = sumF n (fun i => 0)
    induction n with
    | zero => rfl
    | succ n ih => show 0 = sumF n _ + 0; rw [← ih]
  | m + 1 => by
    show sumF m _ + sumF n (fun i => h m i) = _
    rw [sumF_swap h n m]
    have : ∀ k, sumF k (fun i => sumF (m + 1) (fun f => h f i)) = sumF k (fun i => sumF m (fun f => h f i)) + sumF k (fun i => h m i) := by
      intro k
      induction k with
      | zero => rfl
      | succ k ih =>
        show sumF k _ + (sumF m (fun f => h f k) + h m k) = (sumF k _ + sumF m (fun f => h f k)) + (sumF k _ + h m k)
        rw [ih]; omega
    rw [this]
theorem sumF_one (k v : Nat) : ∀ n, sumF n (fun f => if f = k then v else 0) = if k < n then v else 0
  | 0 => by simp [sumF]
  | n + 1 => by
    show sumF n _ + (if n = k then v else 0) = _
    rw [sumF_one k v n]
    by_cases q : k < n
    · rw [if_pos q, if_neg (by omega), if_pos (by omega)]; omega
    · rw [if_neg q]
      by_cases q2 : n = k
      · rw [if_pos q2, if_pos (by omega)]; omega
      · rw [if_neg q2, if_neg (by omega)]
theorem cf_sg {A P : Nat → Nat} {i : Nat} (hW : WF A) (hP : ∀ i, P i ≤ A 2) (hi : i < A 3) : sgA (cfK A P 0) i = if P i < A 2 then sng A (A (8 + P i)) (crw (A 3) P (P i)) i else 12 := by
  have hc := wfc hW
  have hp := hP i
  unfold sgA
  rw [cfK_p hi, cfK_o (show 2 < 33 by decide)]
  by_cases q : P i = A 2
  · rw [if_pos q, if_neg (by omega), if_neg (by omega)]
  · rw [if_neg q, if_pos (by omega), if_pos (by omega), cfK_o (by omega), cf_who hW (by omega), sng_sh (cfK_sh hW) (fun j hj => cfK_o hj) _ _ (by omega)]
theorem cf_ef {A P : Nat → Nat} (hW : WF A) (hP : ∀ i, P i ≤ A 2) : sumF (A 3) (fun i => if sgA (cfK A P 0) i = 12 then 0 else eff (A (13 + i))) = efS A P := by
  unfold efS efG
  rw [sumF_swap]
  refine sumF_congr _ (fun i hi => ?_)
  have e : sumF (A 2) (fun f => if (crw (A 3) P f).testBit i = true ∧ sng A (A (8 + f)) (crw (A 3) P f) i ≠ 12 then eff (A (13 + i)) else 0) = sumF (A 2) (fun f => if f = P i then (if sng A (A (8 + P i)) (crw (A 3) P (P i)) i ≠ 12 then eff (A (13 + i)) else 0) else 0) := by
    refine sumF_congr _ (fun f hf => ?_)
    have hb : (crw (A 3) P f).testBit i = (decide (i < A 3) && decide (P i = f)) := orF_bit _ _ _
    rw [hb]
    by_cases q : f = P i
    · subst q
      rw [if_pos rfl]
      simp [hi]
    · rw [if_neg q, if_neg (fun c => q (by have := c.1; simp [hi] at this; exact this.symm))]
  rw [e, sumF_one, cf_sg hW hP hi]
  by_cases q : P i < A 2
  · rw [if_pos q, if_pos q]
    by_cases q2 : sng A (A (8 + P i)) (crw (A 3) P (P i)) i = 12
    · rw [if_pos q2, if_neg (fun c => c q2)]
    · rw [if_neg q2, if_pos q2]
  · rw [if_neg q, if_neg q, if_pos rfl]
theorem eff_3 (k : Nat) : eff k ≤ 3 := by
  unfold eff
  rcases k with _ | _ | _ | _ | _ | _ | k <;> simp
theorem efS_le {A P : Nat → Nat} (hW : WF A) (hP : ∀ i, P i ≤ A 2) : efS A P ≤ 15 := by
  have hc := wfc hW
  rw [← cf_ef hW hP]
  have := sumF_le (f := fun i => if sgA (cfK A P 0) i = 12 then 0 else eff (A (13 + i))) (c := 3) (A 3) (fun i _ => by
    show (if _ then 0 else _) ≤ 3
    split
    · omega
    · exact eff_3 _)
  omega
theorem fuS_le {A P : Nat → Nat} (hW : WF A) : fuS A P ≤ 5 := by
  have hc := wfc hW
  have := sumF_le (f := fun f => fuN A (A (8 + f)) (crw (A 3) P f)) (c := 1) (A 2) (fun i _ => by show (if _ then 1 else 0) ≤ 1; split <;> omega)
  unfold fuS; omega
/-- its digits, its song, its effort -/
theorem m_digits {A : Nat → Nat} {t : Nat} {μ : kS} (hW : WF A) (h5 : mr 5 μ A) (h7 : mr 7 μ A) (ht : t < 2 ^ 31) (hA : 1 ≤ A 2) {l2 l3 : Int32} :
    ∃ μ1, fr [7] μ μ1 ∧ mr 7 μ1 (cfK A (dg (A 2 + 1) (A 3) t) 0) ∧ ∀ ν, (∃ x3 s2, R_X9_singAll 7 μ1 x3 s2 ∧ (∃ x5 s4, R_X9_bits x3 s2 x5 s4 ∧ E_X9_layStands_130 (nI (A 2 + 1)) l2 l3 x5 0 0 s4 ν)) → E_X9_layStands_62 (nI (A 2 + 1)) l2 l3 (nI t) (nI (A 3) - 1) μ ν := by
  have hc := wfc hW
  have hP : ∀ i, dg (A 2 + 1) (A 3) t i ≤ A 2 := fun i => by have := Nat.mod_lt (t / (A 2 + 1) ^ (A 3 - 1 - i)) (show 0 < A 2 + 1 by omega); unfold dg; omega
  have key : ∀ k, k ≤ A 3 → ∀ μ', fr [7] μ μ' → mr 7 μ' (cfK A (dg (A 2 + 1) (A 3) t) k) → ∃ μ1, fr [7] μ μ1 ∧ mr 7 μ1 (cfK A (dg (A 2 + 1) (A 3) t) 0) ∧ ∀ ν, (∃ x3 s2, R_X9_singAll 7 μ1 x3 s2 ∧ (∃ x5 s4, R_X9_bits x3 s2 x5 s4 ∧ E_X9_layStands_130 (nI (A 2 + 1)) l2 l3 x5 0 0 s4 ν)) → E_X9_layStands_62 (nI (A 2 + 1)) l2 l3 (nI (t / (A 2 + 1) ^ (A 3 - k))) (nI k - 1) μ' ν := by
    intro k
    induction k with
    | zero => exact fun _ μ' f m => ⟨μ', f, m, fun ν z => t_X9_layStands_62 ⟨fun _ => z, fun y => absurd (by decide) y⟩⟩
    | succ k ih =>
      intro hk μ' f m
      have ei : nI (k + 1) - 1 = nI k := nI_pred k
      have hq : t / (A 2 + 1) ^ (A 3 - (k + 1)) < 2 ^ 31 := Nat.lt_of_le_of_lt (Nat.div_le_self _ _) ht
      have ed : t / (A 2 + 1) ^ (A 3 - (k + 1)) % (A 2 + 1) = dg (A 2 + 1) (A 3) t k := by unfold dg; rw [show A 3 - (k + 1) = A 3 - 1 - k by omega]
      have eq : t / (A 2 + 1) ^ (A 3 - (k + 1)) / (A 2 + 1) = t / (A 2 + 1) ^ (A 3 - k) := by rw [Nat.div_div_eq_div_mul, ← Nat.pow_succ, show (A 3 - (k + 1)).succ = A 3 - k by omega]
      have hd := hP k
      have e5 : μ'.1 5 2 = nI (A 2) := by rw [(f 5 (by decide)).1]; exact mr_n h5 (by decide)
      have n0 : ¬ nI (A 2 + 1) = 0 := nI_ne0 (by omega) (by omega)
      have edv : nI (t / (A 2 + 1) ^ (A 3 - (k + 1))) / nI (A 2 + 1) = nI (t / (A 2 + 1) ^ (A 3 - k)) := by rw [pk_div hq (by omega) (by omega), eq]
      have erm : nI (t / (A 2 + 1) ^ (A 3 - (k + 1))) - nI (t / (A 2 + 1) ^ (A 3 - k)) * nI (A 2 + 1) = nI (dg (A 2 + 1) (A 3) t k) := by
        have := n_remd hq (show 0 < A 2 + 1 by omega) (show A 2 + 1 < 2 ^ 31 by omega)
        rw [edv, ed] at this; exact this
      have eqd : (nI (dg (A 2 + 1) (A 3) t k) = nI (A 2) ↔ dg (A 2 + 1) (A 3) t k = A 2) := nI_eq (by omega) (by omega)
      have hmr : mr 7 (k_si μ' 7 (33 + k) (if dg (A 2 + 1) (A 3) t k = A 2 then -4 else nI (dg (A 2 + 1) (A 3) t k))) (cfK A (dg (A 2 + 1) (A 3) t) k) := by
        intro j hj
        rw [s_i, if_pos rfl]
        by_cases z : j = 33 + k
        · rw [if_pos z, z]; unfold vI
          rw [cfK_k (by omega)]
          by_cases y : dg (A 2 + 1) (A 3) t k = A 2
          · rw [if_pos y, if_pos y, if_pos ⟨by omega, rfl⟩]
          · rw [if_neg y, if_neg y, if_neg (by omega)]
        · rw [if_neg z, m j hj]; unfold vI; rw [cfK_n z]
      obtain ⟨μ1, g1, g2, g3⟩ := ih (by omega) _ (fr_tr f (fr_si (by decide))) hmr
      refine ⟨μ1, g1, g2, fun ν z => ?_⟩
      have g4 := g3 ν z
      rw [ei]
      refine t_X9_layStands_62 ⟨fun y => absurd y (n_neg (by omega)), fun _ => ?_⟩
      rw [edv, erm, e5, show (33 : Int32) = nI 33 from rfl, nI_add, n_N (by omega), show nI k + -1 = nI k - 1 by rw [Int32.sub_eq_add_neg]]
      refine ⟨n0, fun y => ⟨n0, n_in (by omega) (by decide), n0, ?_⟩, fun y => ⟨n_in (by omega) (by decide), n0, ?_⟩⟩
      · rw [if_neg (fun c => y (eqd.mpr c))] at g4; exact g4
      · rw [if_pos (eqd.mp y)] at g4; exact g4
  have := key (A 3) (Nat.le_refl _) μ fr_rf (fun j hj => by
    rw [h7 j hj]; unfold vI
    rw [show cfK A (dg (A 2 + 1) (A 3) t) (A 3) j = A j by unfold cfK; rw [if_neg (by omega)]])
  rw [Nat.sub_self, Nat.pow_zero, Nat.div_one] at this
  exact this
theorem m_effort {A P : Nat → Nat} {μ : kS} {l1 l2 l3 x5 : Int32} (hW : WF A) (hP : ∀ i, P i ≤ A 2) (h5 : mr 5 μ A) (h11 : ∀ i, i < 5 → μ.1 11 i = nI (sgP (cfK A P 0) (cfK A P 0 2) i)) : ∀ ν, (((μ.1 0 15) < x5 → E_X9_layStands_208 l1 l2 l3 x5 (nI (efS A P)) μ ν) ∧ (¬ (μ.1 0 15) < x5 → (¬ x5 = (μ.1 0 15) → E_X9_layStands_40 l1 l2 (l3 + 1) μ ν) ∧ (x5 = (μ.1 0 15) → ((μ.1 0 16) ≤ nI (efS A P) → E_X9_layStands_40 l1 l2 (l3 + 1) μ ν) ∧ (¬ (μ.1 0 16) ≤ nI (efS A P) → E_X9_layStands_208 l1 l2 l3 x5 (nI (efS A P)) μ ν)))) → E_X9_layStands_130 l1 l2 l3 x5 0 0 μ ν := by
  intro ν hν
  have hc := wfc hW
  have e5 : μ.1 5 3 = nI (A 3) := mr_n h5 (by decide)
  have key : ∀ i, i ≤ A 3 → E_X9_layStands_130 l1 l2 l3 x5 (nI (sumF i (fun i => if sgA (cfK A P 0) i = 12 then 0 else eff (A (13 + i))))) (nI i) μ ν := by
    refine loop_up (A 3) ?_ (fun i hi ih => ?_)
    · rw [cf_ef hW hP]
      exact t_X9_layStands_130 ⟨fun _ => hν, fun z => absurd (by rw [e5]; exact Int32.le_refl _) z⟩
    · have hk := (hW.2.2.2.2.2 i hi).1
      have e11 : μ.1 11 i = nI (sgA (cfK A P 0) i) := by rw [h11 i (by omega), sgP_e (by rw [cfK_o (show 3 < 33 by decide)]; exact hi)]
      have hs : sumF (i + 1) (fun i => if sgA (cfK A P 0) i = 12 then 0 else eff (A (13 + i))) = sumF i (fun i => if sgA (cfK A P 0) i = 12 then 0 else eff (A (13 + i))) + (if sgA (cfK A P 0) i = 12 then 0 else eff (A (13 + i))) := rfl
      have e12 : (nI (sgA (cfK A P 0) i) = 12 ↔ sgA (cfK A P 0) i = 12) := nI_eq (b := 12) (by have := sgA_le (cfK A P 0) i; omega) (by decide)
      refine t_X9_layStands_130 ⟨fun z => absurd z (by rw [e5]; exact nI_ge hi (by omega)), fun _ => ⟨n_in (by omega) (by decide), ?_⟩⟩
      rw [n_N (by omega), e11, n_inc, show (13 : Int32) = nI 13 from rfl, nI_add, n_N (by omega), mr_n h5 (show 13 + i < 33 by omega)]
      refine ⟨fun z => ⟨n_in (by omega) (by decide), _, _, m_tires hk, ?_⟩, fun z => ?_⟩
      · rw [hs, if_neg (fun c => z (e12.mpr c))] at ih
        rw [nI_add]; exact ih
      · rw [hs, if_pos (e12.mp z)] at ih
        rw [show (0 : Int32) = nI 0 from rfl, nI_add]; exact ih
  exact key 0 (Nat.zero_le _)
