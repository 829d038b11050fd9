/-! what was heard: which sounds fit -/
noncomputable def tN (p : Prop) : Nat := by
  classical exact if p then 1 else 0
theorem tN_t {p : Prop} (h : p) : tN p = 1 := if_pos h
theorem tN_f {p : Prop} (h : ¬ p) : tN p = 0 := if_neg h
theorem bI_tN (p : Prop) : bI p = nI (tN p) := by
  by_cases h : p
  · rw [bI_t h, tN_t h]; rfl
  · rw [bI_f h, tN_f h]; rfl
noncomputable def cnF (F : Nat → Prop) (n : Nat) : Nat := sumF n (fun m => tN (F m))
noncomputable def fsF (F : Nat → Prop) : Nat → Nat
  | 0 => 0
  | n + 1 => if tN (F n) = 1 ∧ cnF F n = 0 then n else fsF F n
def incF (g : Nat → Nat → Nat) (n : Nat) (T : Nat → Int32) : Nat → Nat → Int32
  | 0 => T
  | i + 1 => fun j => if j = 13 * i + g i n then incF g n T i j + 1 else incF g n T i j
noncomputable def tab (F : Nat → Prop) (g : Nat → Nat → Nat) (S : Nat) : Nat → Nat → Int32
  | 0 => fun _ => 0
  | n + 1 => if tN (F n) = 1 then incF g n (tab F g S n) S else tab F g S n
theorem cnF_t {F : Nat → Prop} {n : Nat} (h : F n) : cnF F (n + 1) = cnF F n + 1 := by show sumF n _ + tN (F n) = _; rw [tN_t h]; rfl
theorem cnF_f {F : Nat → Prop} {n : Nat} (h : ¬ F n) : cnF F (n + 1) = cnF F n := by show sumF n _ + tN (F n) = _; rw [tN_f h]; rfl
theorem cnF_le (F : Nat → Prop) : ∀ n, cnF F n ≤ n
  | 0 => Nat.le_refl _
  | n + 1 => by
    have := cnF_le F n
    by_cases h : F n
    · rw [cnF_t h]; omega
    · rw [cnF_f h]; omega
theorem fsF_t {F : Nat → Prop} {n : Nat} (h : F n) (h0 : cnF F n = 0) : fsF F (n + 1) = n := by show (if _ then _ else _) = _; rw [if_pos ⟨tN_t h, h0⟩]
theorem fsF_k {F : Nat → Prop} {n : Nat} (h0 : ¬ cnF F n = 0) : fsF F (n + 1) = fsF F n := by show (if _ then _ else _) = _; rw [if_neg (fun c => h0 c.2)]
theorem fsF_f {F : Nat → Prop} {n : Nat} (h : ¬ F n) : fsF F (n + 1) = fsF F n := by show (if _ then _ else _) = _; rw [if_neg (fun c => by rw [tN_f h] at c; exact absurd c.1 (by decide))]
theorem tab_t {F : Nat → Prop} {g : Nat → Nat → Nat} {S n : Nat} (h : F n) : tab F g S (n + 1) = incF g n (tab F g S n) S := by show (if _ then _ else _) = _; rw [if_pos (tN_t h)]
theorem tab_f {F : Nat → Prop} {g : Nat → Nat → Nat} {S n : Nat} (h : ¬ F n) : tab F g S (n + 1) = tab F g S n := by show (if _ then _ else _) = _; rw [if_neg (fun c => by rw [tN_f h] at c; exact absurd c (by decide))]
theorem cn_up {F : Nat → Prop} {n : Nat} (h : ¬ cnF F n = 0) : ∀ d, fsF F (n + d) = fsF F n ∧ ¬ cnF F (n + d) = 0
  | 0 => ⟨rfl, h⟩
  | d + 1 => by
    obtain ⟨a, b⟩ := cn_up h d
    refine ⟨(fsF_k b).trans a, ?_⟩
    show ¬ cnF F (n + d + 1) = 0
    by_cases q : F (n + d)
    · rw [cnF_t q]; omega
    · rw [cnF_f q]; exact b
def FT (A : Nat → Nat) (w v : Nat → Nat) (c n q : Nat) : Prop := ∀ j, q ≤ j → j < c → al A (A (13 + w j)) (w j) n = v j
theorem FT_s {A : Nat → Nat} {w v : Nat → Nat} {c n q : Nat} (h : al A (A (13 + w q)) (w q) n = v q) : FT A w v c n q ↔ FT A w v c n (q + 1) := by
  constructor
  · exact fun g j a b => g j (by omega) b
  · intro g j a b
    by_cases e : j = q
    · rw [e]; exact h
    · exact g j (by omega) b
def fit (A : Nat → Nat) (w v : Nat → Nat) (c n : Nat) : Prop := n ≠ 0 ∧ FT A w v c n 0
def gA (A : Nat → Nat) (i n : Nat) : Nat := al A (A (13 + i)) i n
/-! the class's side -/
theorem x_agrees {A : Nat → Nat} {w v : Nat → Nat} {c n : Nat} {σ : kS} (hx : vx 3 σ A) (hT : CT σ A) (hW : WF A) (hc : c ≤ 6) (hn : n < 4096) (hw : ∀ j, j < c → w j < A 3 ∧ v j ≤ 12 ∧ σ.1 35 j = nI (w j) ∧ σ.1 36 j = nI (v j)) : R_X3_agrees (nI n) (nI c) σ (bI (FT A w v c n 0)) σ := by
  have hcc := wfc hW
  have key : ∀ q, q ≤ c → E_X3_agrees_3 (nI n) (nI c) (nI q) σ (bI (FT A w v c n q)) σ := by
    refine loop_up c ?_ (fun q hq ih => ?_)
    · exact t_X3_agrees_3 ⟨fun _ => ⟨bI_t (fun j a b => absurd b (by omega)), rfl⟩, fun z => absurd (Int32.le_refl _) z⟩
    · obtain ⟨w1, w2, w3, w4⟩ := hw q hq
      refine t_X3_agrees_3 ⟨fun z => absurd z (nI_ge hq (by omega)), fun _ => ?_⟩
      rw [n_N (by omega), w3, n_N (by omega)]
      have ek : σ.1 6 (w q) = nI (A (13 + w q)) := (hx.2.2.2 _ w1).1
      have hk := (hW.2.2.2.2.2 _ w1).1
      have hin : vp_in (nI q) 6 := n_in (by omega) (by decide)
      refine ⟨hin, n_in (by omega) (by decide), hin, _, _, x_range (v := 3) rfl hx hW w1, _, _, by rw [ek]; exact x_alone hT hW hk w1 hn, hin, ?_⟩
      rw [w4, n_inc, nI_eq (by have := al_le A (A (13 + w q)) (w q) n; omega) (by omega)]
      refine ⟨fun z => ?_, fun z => ⟨bI_f (fun g => z (g q (Nat.le_refl _) hq)), rfl⟩⟩
      rw [propext (FT_s z)]; exact ih
  exact t_X3_agrees (key 0 (Nat.zero_le _))
theorem x_sort {A : Nat → Nat} {n : Nat} {σ : kS} (T : Nat → Int32) (hx : vx 3 σ A) (hT : CT σ A) (hW : WF A) (hn : n < 4096) (ht : ∀ j, j < 65 → σ.1 37 j = T j) : ∃ τ, R_X3_sort (nI n) σ τ ∧ fr [37] σ τ ∧ ∀ j, j < 65 → τ.1 37 j = incF (gA A) n T (A 3) j := by
  have hcc := wfc hW
  have key : ∀ i, i ≤ A 3 → ∀ σ', fr [37] σ σ' → (∀ j, j < 65 → σ'.1 37 j = incF (gA A) n T i j) → ∃ τ, E_X3_sort_3 (nI n) (nI i) σ' τ ∧ fr [37] σ τ ∧ ∀ j, j < 65 → τ.1 37 j = incF (gA A) n T (A 3) j := by
    refine loop_up (A 3) (fun σ' f g => ?_) (fun i hi ih σ' f g => ?_)
    · refine ⟨σ', t_X3_sort_3 ⟨fun _ => rfl, fun z => absurd ?_ z⟩, f, g⟩
      rw [(f 3 (by decide)).1, hx.1.2.2.1]; exact Int32.le_refl _
    · have hx' : vx 3 σ' A := vx_kp hx (fun k a b => (f k (by simp; omega)).1)
      have hT' : CT σ' A := CT_o hT (f 25 (by decide)).1 (f 26 (by decide)).1
      have hk := (hW.2.2.2.2.2 _ hi).1
      have ek : σ'.1 6 i = nI (A (13 + i)) := (hx'.2.2.2 _ hi).1
      have hg : gA A i n ≤ 12 := al_le _ _ _ _
      have ei : nI i * 13 + nI (gA A i n) = nI (13 * i + gA A i n) := by rw [show (13 : Int32) = nI 13 from rfl, pk_mul, nI_add, Nat.mul_comm]
      obtain ⟨τ, j1, j2, j3⟩ := ih (k_si σ' 37 (13 * i + gA A i n) (σ'.1 37 (13 * i + gA A i n) + 1)) (fr_tr f (fr_si (by decide))) (fun j hj => by
        rw [s_i, if_pos rfl]
        show _ = if j = 13 * i + gA A i n then incF (gA A) n T i j + 1 else incF (gA A) n T i j
        by_cases q : j = 13 * i + gA A i n
        · rw [if_pos q, if_pos q, ← q, g j hj]
        · rw [if_neg q, if_neg q]; exact g j hj)
      refine ⟨τ, t_X3_sort_3 ⟨fun z => absurd z ?_, fun _ => ⟨n_in (by omega) (by decide), _, _, x_range (v := 3) rfl hx' hW hi, nI (gA A i n), σ', ?_, ?_⟩⟩, j2, j3⟩
      · rw [hx'.1.2.2.1]; exact nI_ge hi (by omega)
      · rw [n_N (by omega), ek]; exact x_alone hT' hW hk hi hn
      · rw [ei, n_N (by omega), n_inc]
        exact ⟨n_in (by omega) (by decide), n_in (by omega) (by decide), j1⟩
  obtain ⟨τ, a, b, c⟩ := key 0 (Nat.zero_le _) σ fr_rf ht
  exact ⟨τ, t_X3_sort a, b, c⟩
theorem x_listen {A : Nat → Nat} {w v : Nat → Nat} {s o c : Nat} {σ : kS} (hs : k_sht s = true) (hx : vx 3 σ A) (hT : CT σ A) (hW : WF A) (hc : c ≤ 6) (ho : o + 2 * c ≤ 24) (hw : ∀ j, j < c → w j < A 3 ∧ v j ≤ 12 ∧ σ.2 (s + 1) (o + 2 * j) = lN (w j) ∧ σ.2 (s + 1) (o + 2 * j + 1) = lN (v j)) :
    ∃ τ, R_X3_listen s (nI o) (nI c) σ τ ∧ fr [34, 35, 36, 37] σ τ ∧ τ.1 34 0 = nI (cnF (fit A w v c) 4096) ∧ τ.1 34 1 = nI (fsF (fit A w v c) 4096) ∧ ∀ j, j < 65 → τ.1 37 j = tab (fit A w v c) (gA A) (A 3) 4096 j := by
  have hcc := wfc hW
  have sm4 : fr [34, 35, 36, 37] σ σ := fr_rf
  have lp : ∀ n, n ≤ 4096 → 1 ≤ n → ∀ σ', fr [34, 35, 36, 37] σ σ' → (∀ j, j < c → w j < A 3 ∧ v j ≤ 12 ∧ σ'.1 35 j = nI (w j) ∧ σ'.1 36 j = nI (v j)) → σ'.1 34 0 = nI (cnF (fit A w v c) n) → σ'.1 34 1 = nI (fsF (fit A w v c) n) → (∀ j, j < 65 → σ'.1 37 j = tab (fit A w v c) (gA A) (A 3) n j) →
      ∃ τ, E_X3_listen_79 (nI c) (nI n) σ' τ ∧ fr [34, 35, 36, 37] σ τ ∧ τ.1 34 0 = nI (cnF (fit A w v c) 4096) ∧ τ.1 34 1 = nI (fsF (fit A w v c) 4096) ∧ ∀ j, j < 65 → τ.1 37 j = tab (fit A w v c) (gA A) (A 3) 4096 j := by
    refine loop_up 4096 (fun _ σ' f g1 g2 g3 g4 => ?_) (fun n hn ih h1 σ' f g1 g2 g3 g4 => ?_)
    · exact ⟨σ', t_X3_listen_79 ⟨fun _ => rfl, fun z => absurd (Int32.le_refl _) z⟩, f, g2, g3, g4⟩
    · have hx' : vx 3 σ' A := vx_kp hx (fun k a b => (f k (by simp; omega)).1)
      have hT' : CT σ' A := CT_o hT (f 25 (by decide)).1 (f 26 (by decide)).1
      have ha := x_agrees (n := n) hx' hT' hW hc hn g1
      have nle : ¬ (4096 : Int32) ≤ nI n := nI_ge (b := 4096) hn (by decide)
      have hcn := cnF_le (fit A w v c) n
      by_cases q : FT A w v c n 0
      · have hF : fit A w v c n := ⟨by omega, q⟩
        rw [bI_t q] at ha
        have e0 : (σ'.1 34 0 = 0 ↔ cnF (fit A w v c) n = 0) := by rw [g2]; exact n_eq0 (by omega)
        have tail : ∀ y0, y0 = nI (fsF (fit A w v c) (n + 1)) → ∃ τ, E_X3_listen_117 (nI c) (nI n) y0 σ' τ ∧ fr [34, 35, 36, 37] σ τ ∧ τ.1 34 0 = nI (cnF (fit A w v c) 4096) ∧ τ.1 34 1 = nI (fsF (fit A w v c) 4096) ∧ ∀ j, j < 65 → τ.1 37 j = tab (fit A w v c) (gA A) (A 3) 4096 j := by
          intro y0 hy
          have f1 : fr [34] σ' (k_si (k_si σ' 34 1 y0) 34 0 (σ'.1 34 0 + 1)) := fr_tr (fr_si (by decide)) (fr_si (by decide))
          obtain ⟨s2, a1, a2, a3⟩ := x_sort (n := n) (σ := k_si (k_si σ' 34 1 y0) 34 0 (σ'.1 34 0 + 1)) (tab (fit A w v c) (gA A) (A 3) n) (vx_kp hx' (fun k a b => (f1 k (by simp; omega)).1)) (CT_o hT' (f1 25 (by decide)).1 (f1 26 (by decide)).1) hW hn (fun j hj => by rw [(f1 37 (by decide)).1]; exact g4 j hj)
          obtain ⟨τ, j1, j2⟩ := ih (by omega) s2 (fr_tr f (fr_tr (fr_mo f1 (by decide)) (fr_mo a2 (by decide)))) (fun j hj => by rw [(a2 35 (by decide)).1, (f1 35 (by decide)).1, (a2 36 (by decide)).1, (f1 36 (by decide)).1]; exact g1 j hj)
            (by rw [(a2 34 (by decide)).1, k_si_at, g2, n_inc, cnF_t hF]) (by rw [(a2 34 (by decide)).1, s_i, if_pos rfl, if_neg (by decide), k_si_at]; exact hy) (fun j hj => by rw [a3 j hj, tab_t hF])
          exact ⟨τ, t_X3_listen_117 ⟨s2, a1, by rw [n_inc]; exact j1⟩, j2⟩
        by_cases q0 : cnF (fit A w v c) n = 0
        · obtain ⟨τ, j1, j2⟩ := tail (nI n) (by rw [fsF_t hF q0])
          exact ⟨τ, t_X3_listen_79 ⟨fun z => absurd z nle, fun _ => ⟨_, _, ha, fun z => absurd z (by decide), fun _ => ⟨fun z => absurd (e0.mpr q0) z, fun _ => j1⟩⟩⟩, j2⟩
        · obtain ⟨τ, j1, j2⟩ := tail (σ'.1 34 1) (by rw [g3, fsF_k q0])
          exact ⟨τ, t_X3_listen_79 ⟨fun z => absurd z nle, fun _ => ⟨_, _, ha, fun z => absurd z (by decide), fun _ => ⟨fun _ => j1, fun z => absurd (e0.mp z) q0⟩⟩⟩, j2⟩
      · have hF : ¬ fit A w v c n := fun z => q z.2
        rw [bI_f q] at ha
        obtain ⟨τ, j1, j2⟩ := ih (by omega) σ' f g1 (by rw [cnF_f hF]; exact g2) (by rw [fsF_f hF]; exact g3) (by rw [tab_f hF]; exact g4)
        exact ⟨τ, t_X3_listen_79 ⟨fun z => absurd z nle, fun _ => ⟨_, _, ha, fun _ => by rw [n_inc]; exact j1, fun z => absurd rfl z⟩⟩, j2⟩
  have cp : ∀ q, q ≤ c → ∀ σ', fr [35, 36] σ σ' → (∀ j, j < q → σ'.1 35 j = nI (w j) ∧ σ'.1 36 j = nI (v j)) → ∃ τ, E_X3_listen_3 s (nI o) (nI c) (nI q) σ' τ ∧ fr [34, 35, 36, 37] σ τ ∧ τ.1 34 0 = nI (cnF (fit A w v c) 4096) ∧ τ.1 34 1 = nI (fsF (fit A w v c) 4096) ∧ ∀ j, j < 65 → τ.1 37 j = tab (fit A w v c) (gA A) (A 3) 4096 j := by
    refine loop_up c (fun σ' f g => ?_) (fun q hq ih σ' f g => ?_)
    · have hF0 : ¬ fit A w v c 0 := fun z => z.1 rfl
      have c1 : cnF (fit A w v c) 1 = 0 := cnF_f hF0
      have c2 : fsF (fit A w v c) 1 = 0 := fsF_f hF0
      have c3 : tab (fit A w v c) (gA A) (A 3) 1 = fun _ => 0 := tab_f hF0
      have f2 : fr [34, 37] σ' (k_fi (k_si (k_si σ' 34 0 0) 34 1 0) 37 65 0) := fr_tr (fr_tr (fr_si (by decide)) (fr_si (by decide))) (fr_fi (by decide))
      obtain ⟨τ, j1, j2⟩ := lp 1 (by decide) (by decide) (k_fi (k_si (k_si σ' 34 0 0) 34 1 0) 37 65 0) (fr_tr (fr_mo f (by decide)) (fr_mo f2 (by decide))) (fun j hj => by rw [(f2 35 (by decide)).1, (f2 36 (by decide)).1]; exact ⟨(hw j hj).1, (hw j hj).2.1, g j hj⟩) (by rw [c1, nI_0]; simp [k_fi, s_i]) (by rw [c2, nI_0]; simp [k_fi, s_i]) (fun j hj => by rw [c3]; simp [k_fi, hj])
      exact ⟨τ, t_X3_listen_3 hs ⟨fun _ => ⟨_, x_fill rfl (by decide), j1⟩, fun z => absurd (Int32.le_refl _) z⟩, j2⟩
    · obtain ⟨w1, w2, w3, w4⟩ := hw q hq
      have e1 : σ'.2 = σ'.2 := rfl
      obtain ⟨τ, j1, j2⟩ := ih (k_si (k_si σ' 35 q (nI (w q))) 36 q (nI (v q))) (fr_tr f (fr_tr (fr_si (by decide)) (fr_si (by decide)))) (fun j hj => by
        simp only [s_i]
        by_cases z : j = q
        · subst z; simp
        · have := g j (by omega)
          simp [z, this])
      refine ⟨τ, t_X3_listen_3 hs ⟨fun z => absurd z (nI_ge hq (by omega)), fun _ => ?_⟩, j2⟩
      have hs2 : s + 1 ∉ [35, 36] := by
        intro z
        simp only [k_sht, Bool.or_eq_true, beq_iff_eq] at hs
        simp at z; omega
      rw [n2j, n_inc, n_inc, n_N (by omega), n_N (by omega), n_N (by omega), (f (s + 1) hs2).2, w3, w4, lN_i, lN_i]
      exact ⟨n_in (by omega) (by decide), n_in (by omega) (by decide), n_in (by omega) (by decide), n_in (by omega) (by decide), j1⟩
  obtain ⟨τ, j1, j2⟩ := cp 0 (Nat.zero_le _) σ fr_rf (fun j hj => absurd hj (by omega))
  exact ⟨τ, t_X3_listen hs j1, j2⟩
/-! the reference's side -/
theorem nar_b (p : Prop) : vp_nar .boolean (bI p) = bI p := by
  by_cases h : p
  · rw [bI_t h]; rfl
  · rw [bI_f h]; rfl
theorem m_lay {A : Nat → Nat} {w v : Nat → Nat} {o c : Nat} {μ : kS} (hm : mr 5 μ A) (hW : WF A) (hc : 1 ≤ c ∧ c ≤ 6) (ho : o + 2 * c ≤ 96) (hw : ∀ j, j < c → w j < A 3 ∧ v j ≤ 12 ∧ μ.2 3 (o + 2 * j) = lN (w j) ∧ μ.2 3 (o + 2 * j + 1) = lN (v j)) :
    ∃ ν, R_X9_layFits (nI o) (nI c) μ (nI (cnF (fit A w v c) 4096)) ν ∧ fr [14] μ ν ∧ ∀ n, n < 4096 → ν.1 14 n = nI (tN (fit A w v c n)) := by
  have hcc := wfc hW
  have lp : ∀ n, n ≤ 4096 → ∀ μ', fr [14] μ μ' → (∀ m, m < n → μ'.1 14 m = nI (tN (fit A w v c m))) → ∃ ν, E_X9_layFits_5 (nI o) (nI c) (nI (cnF (fit A w v c) n)) (nI n) μ' (nI (cnF (fit A w v c) 4096)) ν ∧ fr [14] μ ν ∧ ∀ n, n < 4096 → ν.1 14 n = nI (tN (fit A w v c n)) := by
    refine loop_up 4096 (fun μ' f g => ?_) (fun n hn ih μ' f g => ?_)
    · exact ⟨μ', t_X9_layFits_5 ⟨fun _ => ⟨rfl, rfl⟩, fun z => absurd (Int32.le_refl _) z⟩, f, g⟩
    · have hm' : mr 5 μ' A := mr_kp hm (f 5 (by decide)).1
      have nle : ¬ (4096 : Int32) ≤ nI n := nI_ge (b := 4096) hn (by decide)
      have hin : vp_in (nI n) 4096 := n_in hn (by decide)
      obtain ⟨ν, j1, j2⟩ := ih (k_si μ' 14 n (nI (tN (fit A w v c n)))) (fr_tr f (fr_si (by decide))) (fun m hm => by
        rw [s_i, if_pos rfl]
        by_cases z : m = n
        · rw [if_pos z, z]
        · rw [if_neg z]; exact g m (by omega))
      have e115 : E_X9_layFits_115 (nI o) (nI c) (nI (cnF (fit A w v c) n)) (nI n) (bI (fit A w v c n)) μ' (nI (cnF (fit A w v c) 4096)) ν := by
        refine t_X9_layFits_115 ⟨hin, ?_⟩
        rw [nar_b, n_N (by omega), n_inc]
        by_cases q : fit A w v c n
        · rw [bI_t q, n_inc, ← cnF_t q, show (1 : Int32) = nI (tN (fit A w v c n)) by rw [tN_t q]; rfl]
          exact ⟨fun z => absurd z (by rw [tN_t q]; decide), fun _ => j1⟩
        · rw [bI_f q, show nI (cnF (fit A w v c) n) + 0 = nI (cnF (fit A w v c) (n + 1)) by rw [cnF_f q, show (0 : Int32) = nI 0 from rfl, nI_add]; rfl, show (0 : Int32) = nI (tN (fit A w v c n)) by rw [tN_f q]; rfl]
          exact ⟨fun _ => j1, fun z => absurd rfl z⟩
      have hch := m_chordBy (r := 5) (n := n) rfl hm' hW hn
      refine ⟨ν, t_X9_layFits_5 ⟨fun z => absurd z nle, fun _ => ⟨_, _, hch, fun z => ?_, fun z => ?_⟩⟩, j2⟩
      · have hn0 : n = 0 := by
          rw [show (0 : Int32) = nI 0 from rfl, n_le (by omega) (by decide)] at z; omega
        have q : ¬ fit A w v c n := fun y => y.1 hn0
        rw [bI_f q] at e115
        exact t_X9_layFits_39 ⟨fun _ => e115, fun _ => ⟨fun _ => e115, fun y => absurd rfl y⟩⟩
      · have hn0 : n ≠ 0 := fun y => by subst y; exact z (Int32.le_refl _)
        have ef : bI (fit A w v c n) = bI (FT A w v c n 0) := by rw [propext (show fit A w v c n ↔ FT A w v c n 0 from ⟨fun y => y.2, fun y => ⟨hn0, y⟩⟩)]
        rw [ef] at e115
        have key : ∀ q, q ≤ c → (E_X9_layFits_115 (nI o) (nI c) (nI (cnF (fit A w v c) n)) (nI n) (bI (FT A w v c n q)) μ' (nI (cnF (fit A w v c) 4096)) ν → E_X9_layFits_39 (nI o) (nI c) (nI (cnF (fit A w v c) n)) (nI n) (cI (chd A n)) 1 (nI q) μ' (nI (cnF (fit A w v c) 4096)) ν) := by
          refine loop_up c (fun z => ?_) (fun q hq ih z => ?_)
          · refine t_X9_layFits_39 ⟨fun _ => ?_, fun z => absurd (Int32.le_refl _) z⟩
            rw [bI_t (show FT A w v c n c from fun j a b => absurd b (by omega))] at z; exact z
          · obtain ⟨w1, w2, w3, w4⟩ := hw q hq
            have hk := (hW.2.2.2.2.2 _ w1).1
            refine t_X9_layFits_39 ⟨fun z => absurd z (nI_ge hq (by omega)), fun _ => ⟨fun z => absurd z (by decide), fun _ => ?_⟩⟩
            rw [n2j, n_inc, n_inc, n_N (by omega), n_N (by omega), (f 3 (by decide)).2, w3, lN_i, show (13 : Int32) = nI 13 from rfl, nI_add, n_N (by omega), mr_n hm' (show 13 + w q < 33 by omega)]
            refine ⟨n_in (by omega) (by decide), n_in (by omega) (by decide), _, _, m_alone hm' hW hk w1, n_in (by omega) (by decide), ?_⟩
            rw [(f 3 (by decide)).2, w4, al_eq (al_le _ _ _ _) w2]
            refine ⟨fun z2 => ?_, fun z2 => ?_⟩
            · rw [bI_f (fun g => z2 (g q (Nat.le_refl _) hq))] at z
              exact t_X9_layFits_39 ⟨fun _ => z, fun _ => ⟨fun _ => z, fun c => absurd rfl c⟩⟩
            · rw [propext (FT_s z2)] at z
              exact ih z
        exact key 0 (Nat.zero_le _) e115
  obtain ⟨ν, j1, j2⟩ := lp 0 (by decide) μ fr_rf (fun m hm => absurd hm (by omega))
  exact ⟨ν, t_X9_layFits j1, j2⟩
theorem m_least {F : Nat → Prop} {μ : kS} (h : ∀ n, n < 4096 → μ.1 14 n = nI (tN (F n))) : R_X9_leastFit μ (if cnF F 4096 = 0 then -4 else nI (fsF F 4096)) μ := by
  have lp : ∀ n, n ≤ 4096 → cnF F n = 0 → E_X9_leastFit_2 (nI n) μ (if cnF F 4096 = 0 then -4 else nI (fsF F 4096)) μ := by
    refine loop_up 4096 (fun g => ?_) (fun n hn ih g => ?_)
    · exact t_X9_leastFit_2 ⟨fun _ => ⟨by rw [if_pos g], rfl⟩, fun z => absurd (Int32.le_refl _) z⟩
    · refine t_X9_leastFit_2 ⟨fun z => absurd z (nI_ge (b := 4096) hn (by decide)), fun _ => ⟨n_in hn (by decide), ?_⟩⟩
      rw [n_N (by omega), h n hn]
      by_cases q : F n
      · rw [tN_t q]
        have c1 : ¬ cnF F (n + 1) = 0 := by rw [cnF_t q]; omega
        obtain ⟨a, b⟩ := cn_up c1 (4096 - (n + 1))
        rw [show n + 1 + (4096 - (n + 1)) = 4096 by omega] at a b
        exact ⟨fun z => absurd z (by decide), fun _ => ⟨by rw [if_neg b, a, fsF_t q g], rfl⟩⟩
      · rw [tN_f q, n_inc]
        exact ⟨fun _ => ih (by rw [cnF_f q]; exact g), fun z => absurd rfl z⟩
  exact t_X9_leastFit (lp 0 (by decide) rfl)
/-- the table of the reference -/
theorem m_table {A : Nat → Nat} {F : Nat → Prop} {μ : kS} {P : Int32 → Prop} (hm : mr 5 μ A) (hW : WF A) (h : ∀ n, n < 4096 → μ.1 14 n = nI (tN (F n))) (hk : ∀ ν, fr [13] μ ν → (∀ j, j < 65 → ν.1 13 j = tab F (gA A) (A 3) 4096 j) → ∃ y, P y ∧ E_X9_bestHeard_124 (-4) 4096 0 ν y ν) : ∃ y ν, P y ∧ R_X9_bestHeard μ y ν ∧ fr [13] μ ν := by
  have hcc := wfc hW
  have lp : ∀ n, n ≤ 4096 → ∀ μ', fr [13] μ μ' → (∀ j, j < 65 → μ'.1 13 j = tab F (gA A) (A 3) n j) → ∃ y ν, P y ∧ E_X9_bestHeard_23 (nI n) μ' y ν ∧ fr [13] μ ν := by
    refine loop_up 4096 (fun μ' f g => ?_) (fun n hn ih μ' f g => ?_)
    · obtain ⟨y, y1, y2⟩ := hk μ' f g
      exact ⟨y, μ', y1, t_X9_bestHeard_23 ⟨fun _ => y2, fun z => absurd (Int32.le_refl _) z⟩, f⟩
    · have hm' : mr 5 μ' A := mr_kp hm (f 5 (by decide)).1
      have nle : ¬ (4096 : Int32) ≤ nI n := nI_ge (b := 4096) hn (by decide)
      have hin : vp_in (nI n) 4096 := n_in hn (by decide)
      have e14 : ∀ μ'', fr [13] μ μ'' → μ''.1 14 n = nI (tN (F n)) := fun μ'' f => by rw [(f 14 (by decide)).1]; exact h n hn
      by_cases q : F n
      · have key : ∀ i, i ≤ A 3 → ∀ μ'', fr [13] μ μ'' → (∀ j, j < 65 → μ''.1 13 j = incF (gA A) n (tab F (gA A) (A 3) n) i j) → ∃ y ν, P y ∧ E_X9_bestHeard_54 (nI n) (cI (chd A n)) (nI i) μ'' y ν ∧ fr [13] μ ν := by
          refine loop_up (A 3) (fun μ'' f2 g2 => ?_) (fun i hi ih2 μ'' f2 g2 => ?_)
          · obtain ⟨y, ν, jp, j1, j2⟩ := ih μ'' f2 (by rw [tab_t q]; exact g2)
            refine ⟨y, ν, jp, t_X9_bestHeard_54 ⟨fun _ => by rw [n_inc]; exact j1, fun z => absurd ?_ z⟩, j2⟩
            rw [(f2 5 (by decide)).1, mr_n hm (by decide)]; exact Int32.le_refl _
          · have hm2 : mr 5 μ'' A := mr_kp hm (f2 5 (by decide)).1
            have hg : gA A i n ≤ 12 := al_le _ _ _ _
            have hkk := (hW.2.2.2.2.2 _ hi).1
            obtain ⟨y, ν, jp, j1, j2⟩ := ih2 (k_si μ'' 13 (13 * i + gA A i n) (μ''.1 13 (13 * i + gA A i n) + 1)) (fr_tr f2 (fr_si (by decide))) (fun j hj => by
              rw [s_i, if_pos rfl]
              show _ = if j = 13 * i + gA A i n then incF (gA A) n (tab F (gA A) (A 3) n) i j + 1 else incF (gA A) n (tab F (gA A) (A 3) n) i j
              by_cases q : j = 13 * i + gA A i n
              · rw [if_pos q, if_pos q, ← q, g2 j hj]
              · rw [if_neg q, if_neg q]; exact g2 j hj)
            refine ⟨y, ν, jp, t_X9_bestHeard_54 ⟨fun z => absurd z ?_, fun _ => ⟨hin, ?_⟩⟩, j2⟩
            · rw [mr_n hm2 (by decide)]; exact nI_ge hi (by omega)
            · rw [n_N (by omega), e14 μ'' f2, tN_t q, show (13 : Int32) = nI 13 from rfl, nI_add, n_N (by omega), mr_n hm2 (show 13 + i < 33 by omega)]
              refine ⟨fun z => absurd z (by decide), fun _ => ⟨n_in (by omega) (by decide), nI (gA A i n), μ'', m_alone hm2 hW hkk hi, ?_⟩⟩
              rw [pk_mul, nI_add, n_N (by omega), n_inc]
              exact ⟨n_in (by omega) (by decide), n_in (by omega) (by decide), j1⟩
        obtain ⟨y, ν, jp, j1, j2⟩ := key 0 (Nat.zero_le _) μ' f g
        refine ⟨y, ν, jp, t_X9_bestHeard_23 ⟨fun z => absurd z nle, fun _ => ⟨hin, ?_⟩⟩, j2⟩
        rw [n_N (by omega), e14 μ' f, tN_t q]
        exact ⟨fun z => absurd z (by decide), fun _ => ⟨_, _, m_chordBy (r := 5) rfl hm' hW hn, j1⟩⟩
      · obtain ⟨y, ν, jp, j1, j2⟩ := ih μ' f (by rw [tab_f q]; exact g)
        refine ⟨y, ν, jp, t_X9_bestHeard_23 ⟨fun z => absurd z nle, fun _ => ⟨hin, ?_⟩⟩, j2⟩
        rw [n_N (by omega), e14 μ' f, tN_f q]
        refine ⟨fun _ => t_X9_bestHeard_54 ⟨fun _ => by rw [n_inc]; exact j1, fun _ => ⟨hin, ?_⟩⟩, fun z => absurd rfl z⟩
        rw [n_N (by omega), e14 μ' f, tN_f q]
        exact ⟨fun _ => by rw [n_inc]; exact j1, fun z => absurd rfl z⟩
  have z0 : ∀ i, i ≤ 65 → ∃ y ν, P y ∧ E_X9_bestHeard_2 (nI i) (k_fi μ 13 i 0) y ν ∧ fr [13] μ ν := by
    refine loop_up 65 ?_ (fun i hi ih => ?_)
    · obtain ⟨y, ν, jp, j1, j2⟩ := lp 0 (by decide) (k_fi μ 13 65 0) (fr_fi (by decide)) (fun j hj => by show _ = (0 : Int32); simp [k_fi, hj])
      exact ⟨y, ν, jp, t_X9_bestHeard_2 ⟨fun _ => j1, fun z => absurd (Int32.le_refl _) z⟩, j2⟩
    · obtain ⟨y, ν, jp, j1, j2⟩ := ih
      refine ⟨y, ν, jp, t_X9_bestHeard_2 ⟨fun z => absurd z (nI_ge (b := 65) hi (by decide)), fun _ => ⟨n_in hi (by decide), ?_⟩⟩, j2⟩
      rw [n_N (by omega), k_fi_s, n_inc]; exact j1
  obtain ⟨y, ν, jp, j1, j2⟩ := z0 0 (by decide)
  rw [k_fi_0] at j1
  exact ⟨y, ν, jp, t_X9_bestHeard j1, j2⟩
/-- from equal tables both choose the same one -/
theorem p_best {A : Nat → Nat} {σ μ : kS} (hx : vx 3 σ A) (hm : mr 5 μ A) (hW : WF A) (h : ∀ j, j < 65 → σ.1 37 j = μ.1 13 j) : ∃ y, R_X3_bestToHear (nI (A 3)) σ y σ ∧ E_X9_bestHeard_124 (-4) 4096 0 μ y μ := by
  have hcc := wfc hW
  have lp : ∀ i, i ≤ A 3 → ∀ b l : Int32, ∃ y, E_X3_bestToHear_10 (nI (A 3)) b l (nI i) σ y σ ∧ E_X9_bestHeard_124 b l (nI i) μ y μ := by
    refine loop_up (A 3) (fun b l => ?_) (fun i hi ih b l => ?_)
    · exact ⟨b, t_X3_bestToHear_10 ⟨fun _ => ⟨rfl, rfl⟩, fun z => absurd (Int32.le_refl _) z⟩, t_X9_bestHeard_124 ⟨fun _ => ⟨rfl, rfl⟩, fun z => absurd (by rw [mr_n hm (by decide)]; exact Int32.le_refl _) z⟩⟩
    · have inn : ∀ k, k ≤ 13 → ∀ m : Int32, ∃ y, E_X3_bestToHear_22 (nI (A 3)) b l (nI i) m (nI k) σ y σ ∧ E_X9_bestHeard_140 b l (nI i) m (nI k) μ y μ := by
        refine loop_up 13 (fun m => ?_) (fun k hk ih2 m => ?_)
        · by_cases q : l ≤ m
          · obtain ⟨y, y1, y2⟩ := ih b l
            refine ⟨y, t_X3_bestToHear_22 ⟨fun _ => ⟨fun _ => by rw [n_inc]; exact y1, fun z => absurd q z⟩, fun z => absurd (Int32.le_refl _) z⟩, t_X9_bestHeard_140 ⟨fun _ => ⟨fun _ => t_X9_bestHeard_200 ⟨fun _ => by rw [n_inc]; exact y2, fun z => absurd q z⟩, fun z => absurd q z⟩, fun z => absurd (Int32.le_refl _) z⟩⟩
          · obtain ⟨y, y1, y2⟩ := ih (nI i) m
            refine ⟨y, t_X3_bestToHear_22 ⟨fun _ => ⟨fun z => absurd z q, fun _ => by rw [n_inc]; exact y1⟩, fun z => absurd (Int32.le_refl _) z⟩, t_X9_bestHeard_140 ⟨fun _ => ⟨fun z => absurd z q, fun _ => t_X9_bestHeard_200 ⟨fun z => absurd z q, fun _ => by rw [n_inc]; exact y2⟩⟩, fun z => absurd (Int32.le_refl _) z⟩⟩
        · have nle : ¬ (13 : Int32) ≤ nI k := nI_ge (b := 13) hk (by decide)
          have ea : nI i * 13 + nI k = nI (13 * i + k) := by rw [show (13 : Int32) = nI 13 from rfl, pk_mul, nI_add, Nat.mul_comm]
          have eb : (13 : Int32) * nI i + nI k = nI (13 * i + k) := by rw [show (13 : Int32) = nI 13 from rfl, pk_mul, nI_add]
          have hin : vp_in (nI (13 * i + k)) 65 := n_in (by omega) (by decide)
          have ht := h (13 * i + k) (by omega)
          by_cases q : μ.1 13 (13 * i + k) ≤ m
          · obtain ⟨y, y1, y2⟩ := ih2 m
            refine ⟨y, t_X3_bestToHear_22 ⟨fun z => absurd z nle, fun _ => ?_⟩, t_X9_bestHeard_140 ⟨fun z => absurd z nle, fun _ => ?_⟩⟩
            · rw [ea, n_N (by omega), ht, n_inc, show mx m (μ.1 13 (13 * i + k)) = m by unfold mx; rw [if_neg (Int32.not_lt.mpr q)]]
              exact ⟨hin, y1⟩
            · rw [eb, n_N (by omega), n_inc]
              exact ⟨hin, fun _ => y2, fun z => absurd q z⟩
          · obtain ⟨y, y1, y2⟩ := ih2 (μ.1 13 (13 * i + k))
            refine ⟨y, t_X3_bestToHear_22 ⟨fun z => absurd z nle, fun _ => ?_⟩, t_X9_bestHeard_140 ⟨fun z => absurd z nle, fun _ => ?_⟩⟩
            · rw [ea, n_N (by omega), ht, n_inc, show mx m (μ.1 13 (13 * i + k)) = μ.1 13 (13 * i + k) by unfold mx; rw [if_pos (Int32.not_le.mp q)]]
              exact ⟨hin, y1⟩
            · rw [eb, n_N (by omega), n_inc]
              exact ⟨hin, fun z => absurd z q, fun _ => ⟨hin, y2⟩⟩
      obtain ⟨y, y1, y2⟩ := inn 0 (by decide) 0
      refine ⟨y, t_X3_bestToHear_10 ⟨fun z => absurd z (nI_ge hi (by omega)), fun _ => y1⟩, t_X9_bestHeard_124 ⟨fun z => absurd z ?_, fun _ => y2⟩⟩
      rw [mr_n hm (by decide)]; exact nI_ge hi (by omega)
  obtain ⟨y, y1, y2⟩ := lp 0 (Nat.zero_le _) (-4) 4096
  exact ⟨y, t_X3_bestToHear y1, y2⟩
theorem q_sounded {a b c d e : Int32} {σ μ : kS} (h : Inv σ μ) : ∃ x τ ν, R_X8_sounded a b c d e σ x τ ∧ R_X9_sounded a b c d e μ x ν ∧ Inv τ ν := by
  obtain ⟨A, i1, i2, i3, i4, i5⟩ := id h
  have hc := wfc i1.1
  have we := c_wn e 3 (by decide)
  have ve := c_iv e 2 (by decide)
  by_cases qt : 0 < A 1
  · have tx := (I1_th i1).mpr qt
    have tm := (I1_tm i1).mpr qt
    have hT := i1.2.2.2.2 qt
    by_cases qd : iv d 1 6
    · have d1 : ¬ d < 1 ∧ ¬ (6 : Int32) < d := by unfold iv at qd; rw [lt_I, lt_I]; exact ⟨by omega, by omega⟩
      by_cases qe : ∃ k, k < 3 ∧ e = nI k
      · by_cases qa : ∃ k, k < 4 ∧ a = nI k
        · by_cases qb : ∃ k, k < 4 ∧ b = nI k
          · have hdd : ∃ n, 1 ≤ n ∧ n ≤ 6 ∧ d = nI n := by
              unfold iv at qd
              rw [show (1 : Int32).toInt = 1 from rfl, show (6 : Int32).toInt = 6 from rfl] at qd
              refine ⟨d.toInt.toNat, by omega, by omega, ?_⟩
              apply Int32.toInt_inj.mp
              rw [n_T (by omega)]; omega
            obtain ⟨n, hn1, hn6, rfl⟩ := hdd
            obtain ⟨s, hs, rfl⟩ := id qa
            obtain ⟨l, hl, rfl⟩ := id qb
            obtain ⟨m, hm3, rfl⟩ := id qe
            have hin : vp_in (nI s) 4 := n_in hs (by decide)
            have e2n : (2 : Int32) * nI n = nI (2 * n) := by rw [show (2 : Int32) = nI 2 from rfl, pk_mul]
            obtain ⟨x, r1, r2, r3⟩ := p_ref (a3 := c) (a4 := nI (2 * n)) i5 hs hl
            have CX : ∀ {y τ}, ((x = 0 → vp_in (nI s) 4 ∧ ∃ q9 : Nat, k_fd SX 38 (nI s).toNatClampNeg = some (some q9) ∧ k_sht q9 = true ∧ (∃ (x12 : Int32) (s11 : kS), R_X4_holdsPairs q9 c (nI n) (nI (A 3)) σ x12 s11 ∧ ((¬ x12 = 0 → vp_in (nI s) 4 ∧ ∃ q15 : Nat, k_fd SX 38 (nI s).toNatClampNeg = some (some q15) ∧ k_sht q15 = true ∧ (∃ s17 : kS, R_X3_listen q15 c (nI n) s11 s17 ∧ (((nI m).toInt = 0 → y = (s17.1 34 0) ∧ τ = s17) ∧ (¬ (nI m).toInt = 0 → ((nI m).toInt = 1 → (¬ (s17.1 34 0) = 0 → y = (s17.1 34 1) ∧ τ = s17) ∧ ((s17.1 34 0) = 0 → y = (-4 : Int32) ∧ τ = s17)) ∧ (¬ (nI m).toInt = 1 → (¬ (s17.1 34 0) = 0 → ∃ (x22 : Int32) (s21 : kS), R_X3_bestToHear (s17.1 3 2) s17 x22 s21 ∧ (y = x22 ∧ τ = s21)) ∧ ((s17.1 34 0) = 0 → y = (-4 : Int32) ∧ τ = s17)))))) ∧ (x12 = 0 → y = (-2 : Int32) ∧ τ = s11)))) ∧ (¬ x = 0 → y = x ∧ τ = σ)) → R_X8_sounded (nI s) (nI l) c (nI n) (nI m) σ y τ := fun z => t_X8_sounded ⟨fun w => absurd tx w, fun _ => ⟨fun w => absurd w d1.1, fun _ => ⟨fun w => absurd w d1.2, fun _ => ⟨fun _ => ⟨x, σ, by rw [e2n]; exact r1, by rw [i1.2.2.1.1.2.2.1]; exact z⟩, fun w => absurd (we.mpr qe) w⟩⟩⟩⟩
            have CM : ∀ {y ν}, ((x = 0 → ∃ (x10 : Int32) (s9 : kS), R_X9_areBelow (((24 : Int32) * nI s) + c) (nI n) (nI (A 3)) (13 : Int32) μ x10 s9 ∧ ((¬ x10 = 0 → ∃ (x13 : Int32) (s12 : kS), R_X9_layFits (((24 : Int32) * nI s) + c) (nI n) s9 x13 s12 ∧ ((¬ nI m = 0 → (¬ nI m = (1 : Int32) → (¬ x13 = 0 → ∃ (x18 : Int32) (s17 : kS), R_X9_bestHeard  s12 x18 s17 ∧ (y = x18 ∧ ν = s17)) ∧ (x13 = 0 → y = (-4 : Int32) ∧ ν = s12)) ∧ (nI m = (1 : Int32) → ∃ (x20 : Int32) (s19 : kS), R_X9_leastFit  s12 x20 s19 ∧ (y = x20 ∧ ν = s19))) ∧ (nI m = 0 → y = x13 ∧ ν = s12))) ∧ (x10 = 0 → y = (-2 : Int32) ∧ ν = s9))) ∧ (¬ x = 0 → y = x ∧ ν = μ)) → R_X9_sounded (nI s) (nI l) c (nI n) (nI m) μ y ν := fun z => t_X9_sounded ⟨fun w => absurd tm w, fun _ => ⟨fun w => absurd ((iv3 _).mpr qa) w, fun _ => ⟨fun w => absurd ((iv3 _).mpr qb) w, fun _ => ⟨fun w => absurd qd w, fun _ => ⟨fun _ => ⟨x, μ, by rw [e2n]; exact r2, by rw [mr_n i1.2.2.2.1 (by decide)]; exact z⟩, fun w => absurd (ve.mpr qe) w⟩⟩⟩⟩⟩
            by_cases q0 : x = 0
            · obtain ⟨sz, i, k, hsz, rfl, ek, hik, g1, g2, g3⟩ := r3 q0
              have ekk : 2 * n = k := (nI_eq (by omega) (by omega)).mp ek
              have hv : ∀ j, j < n → σ.2 (55 + 2 * s + 1) (i + 2 * j) = μ.2 3 (24 * s + i + 2 * j) ∧ σ.2 (55 + 2 * s + 1) (i + 2 * j + 1) = μ.2 3 (24 * s + i + 2 * j + 1) := fun j hj => by
                have u1 := g3 (i + 2 * j) (by omega)
                have u2 := g3 (i + 2 * j + 1) (by omega)
                rw [show 56 + 2 * s = 55 + 2 * s + 1 by omega] at u1 u2
                exact ⟨u1.trans (congrArg _ (by omega)), u2.trans (congrArg _ (by omega))⟩
              have hfe : PF (σ.2 (55 + 2 * s + 1)) i (A 3) n 0 ↔ PF (μ.2 3) (24 * s + i) (A 3) n 0 := by
                constructor
                · intro g j a b
                  obtain ⟨w, v, z⟩ := g j a b
                  rw [(hv j b).1, (hv j b).2] at z
                  exact ⟨w, v, z⟩
                · intro g j a b
                  obtain ⟨w, v, z⟩ := g j a b
                  rw [← (hv j b).1, ← (hv j b).2] at z
                  exact ⟨w, v, z⟩
              have x1 := x_pairs (σ := σ) (o := i) (c := n) (L := A 3) (fd38 hs).2 (by omega) (by omega)
              have m1 := m_pairs (μ := μ) (o := 24 * s + i) (c := n) (L := A 3) (by omega) (by omega)
              by_cases qp : PF (μ.2 3) (24 * s + i) (A 3) n 0
              · rw [bI_t (hfe.mpr qp)] at x1
                rw [bI_t qp] at m1
                obtain ⟨w, v, hwv⟩ := PF_get qp
                obtain ⟨σ1, l1, l2, l3, l4, l5⟩ := x_listen (w := w) (v := v) (o := i) (c := n) (fd38 hs).2 i1.2.2.1 hT i1.1 hn6 (by omega) (fun j hj => by rw [(hv j hj).1, (hv j hj).2]; exact hwv j hj)
                obtain ⟨μ1, y1, y2, y3⟩ := m_lay (w := w) (v := v) i1.2.2.2.1 i1.1 ⟨hn1, hn6⟩ (by omega) hwv
                have hcn := cnF_le (fit A w v n) 4096
                have I1' : Inv σ1 μ1 := Inv_sc h (fr_mo l2 (by decide)) y2 (by decide)
                have e0 : (nI (cnF (fit A w v n) 4096) = 0 ↔ cnF (fit A w v n) 4096 = 0) := n_eq0 (by omega)
                have em : ∀ k, k < 3 → (nI m = nI k ↔ m = k) := fun k hk => nI_eq (by omega) (by omega)
                have tm' : (nI m).toInt = (m : Int) := n_T (by omega)
                rcases (show m = 0 ∨ m = 1 ∨ m = 2 by omega) with q | q | q
                · subst q
                  refine ⟨nI (cnF (fit A w v n) 4096), σ1, μ1, CX ⟨fun _ => ⟨hin, _, fd38' hs, (fd38 hs).2, _, _, x1, fun _ => ⟨hin, _, fd38' hs, (fd38 hs).2, _, l1, fun _ => ⟨l3.symm, rfl⟩, fun z => absurd rfl z⟩, fun z => absurd z (by decide)⟩, fun z => absurd q0 z⟩, CM ⟨fun _ => ?_, fun z => absurd q0 z⟩, I1'⟩
                  rw [n24]
                  exact ⟨_, _, m1, fun _ => ⟨_, _, y1, fun z => absurd rfl z, fun _ => ⟨rfl, rfl⟩⟩, fun z => absurd z (by decide)⟩
                · subst q
                  refine ⟨if cnF (fit A w v n) 4096 = 0 then -4 else nI (fsF (fit A w v n) 4096), σ1, μ1, CX ⟨fun _ => ⟨hin, _, fd38' hs, (fd38 hs).2, _, _, x1, fun _ => ⟨hin, _, fd38' hs, (fd38 hs).2, _, l1, fun z => absurd z (by decide), fun _ => ⟨fun _ => ?_, fun z => absurd rfl z⟩⟩, fun z => absurd z (by decide)⟩, fun z => absurd q0 z⟩, CM ⟨fun _ => ?_, fun z => absurd q0 z⟩, I1'⟩
                  · rw [l3, l4, e0]
                    exact ⟨fun z => ⟨by rw [if_neg z], rfl⟩, fun z => ⟨by rw [if_pos z], rfl⟩⟩
                  · rw [n24]
                    exact ⟨_, _, m1, fun _ => ⟨_, _, y1, fun _ => ⟨fun z => absurd rfl z, fun _ => ⟨_, _, m_least y3, rfl, rfl⟩⟩, fun z => absurd z (by decide)⟩, fun z => absurd z (by decide)⟩
                · subst q
                  by_cases qz : cnF (fit A w v n) 4096 = 0
                  · refine ⟨-4, σ1, μ1, CX ⟨fun _ => ⟨hin, _, fd38' hs, (fd38 hs).2, _, _, x1, fun _ => ⟨hin, _, fd38' hs, (fd38 hs).2, _, l1, fun z => absurd z (by decide), fun _ => ⟨fun z => absurd z (by decide), fun _ => ?_⟩⟩, fun z => absurd z (by decide)⟩, fun z => absurd q0 z⟩, CM ⟨fun _ => ?_, fun z => absurd q0 z⟩, I1'⟩
                    · rw [l3, e0]
                      exact ⟨fun z => absurd qz z, fun _ => ⟨rfl, rfl⟩⟩
                    · rw [n24]
                      exact ⟨_, _, m1, fun _ => ⟨_, _, y1, fun _ => ⟨fun _ => ⟨fun z => absurd (e0.mpr qz) z, fun _ => ⟨rfl, rfl⟩⟩, fun z => absurd z (by decide)⟩, fun z => absurd z (by decide)⟩, fun z => absurd z (by decide)⟩
                  · have hx1 : vx 3 σ1 A := vx_kp i1.2.2.1 (fun k a b => (l2 k (by simp; omega)).1)
                    have hm1 : mr 5 μ1 A := mr_kp i1.2.2.2.1 (y2 5 (by decide)).1
                    obtain ⟨y, μ2, b1, b2, b3⟩ := m_table (A := A) (F := fit A w v n) (P := fun y => R_X3_bestToHear (nI (A 3)) σ1 y σ1) hm1 i1.1 y3 (fun ν f g => p_best hx1 (mr_kp hm1 (f 5 (by decide)).1) i1.1 (fun j hj => by rw [l5 j hj, g j hj]))
                    refine ⟨y, σ1, μ2, CX ⟨fun _ => ⟨hin, _, fd38' hs, (fd38 hs).2, _, _, x1, fun _ => ⟨hin, _, fd38' hs, (fd38 hs).2, _, l1, fun z => absurd z (by decide), fun _ => ⟨fun z => absurd z (by decide), fun _ => ?_⟩⟩, fun z => absurd z (by decide)⟩, fun z => absurd q0 z⟩, CM ⟨fun _ => ?_, fun z => absurd q0 z⟩, Inv_sc h (fr_mo l2 (by decide)) (L := [13, 14]) (fr_tr (fr_mo y2 (by decide)) (fr_mo b3 (by decide))) (by decide)⟩
                    · rw [l3, e0, hx1.1.2.2.1]
                      exact ⟨fun _ => ⟨_, _, b1, rfl, rfl⟩, fun z => absurd z qz⟩
                    · rw [n24]
                      exact ⟨_, _, m1, fun _ => ⟨_, _, y1, fun _ => ⟨fun _ => ⟨fun _ => ⟨_, _, b2, rfl, rfl⟩, fun z => absurd (e0.mp z) qz⟩, fun z => absurd z (by decide)⟩, fun z => absurd z (by decide)⟩, fun z => absurd z (by decide)⟩
              · rw [bI_f (fun z => qp (hfe.mp z))] at x1
                rw [bI_f qp] at m1
                refine ⟨-2, σ, μ, CX ⟨fun _ => ⟨hin, _, fd38' hs, (fd38 hs).2, _, _, x1, fun z => absurd rfl z, fun _ => ⟨rfl, rfl⟩⟩, fun z => absurd q0 z⟩, CM ⟨fun _ => ?_, fun z => absurd q0 z⟩, h⟩
                rw [n24]
                exact ⟨_, _, m1, fun z => absurd rfl z, fun _ => ⟨rfl, rfl⟩⟩
            · exact ⟨x, σ, μ, CX ⟨fun z => absurd z q0, fun _ => ⟨rfl, rfl⟩⟩, CM ⟨fun z => absurd z q0, fun _ => ⟨rfl, rfl⟩⟩, h⟩
          · exact ⟨-1, σ, μ, t_X8_sounded ⟨fun _ => ⟨rfl, rfl⟩, fun _ => ⟨fun _ => ⟨rfl, rfl⟩, fun _ => ⟨fun _ => ⟨rfl, rfl⟩, fun _ => ⟨fun _ => ⟨-1, σ, t_X8_refusal ⟨fun _ => ⟨rfl, rfl⟩, fun _ => ⟨fun z => absurd ((wn4 _).mp z) qb, fun _ => ⟨rfl, rfl⟩⟩⟩, fun z => absurd z (by decide), fun _ => ⟨rfl, rfl⟩⟩, fun _ => ⟨rfl, rfl⟩⟩⟩⟩⟩, t_X9_sounded ⟨fun _ => ⟨rfl, rfl⟩, fun _ => ⟨fun _ => ⟨rfl, rfl⟩, fun _ => ⟨fun _ => ⟨rfl, rfl⟩, fun z => absurd ((iv3 _).mp z) qb⟩⟩⟩, h⟩
        · exact ⟨-1, σ, μ, t_X8_sounded ⟨fun _ => ⟨rfl, rfl⟩, fun _ => ⟨fun _ => ⟨rfl, rfl⟩, fun _ => ⟨fun _ => ⟨rfl, rfl⟩, fun _ => ⟨fun _ => ⟨-1, σ, t_X8_refusal ⟨fun _ => ⟨rfl, rfl⟩, fun z => absurd ((wn4 _).mp z) qa⟩, fun z => absurd z (by decide), fun _ => ⟨rfl, rfl⟩⟩, fun _ => ⟨rfl, rfl⟩⟩⟩⟩⟩, t_X9_sounded ⟨fun _ => ⟨rfl, rfl⟩, fun _ => ⟨fun _ => ⟨rfl, rfl⟩, fun z => absurd ((iv3 _).mp z) qa⟩⟩, h⟩
      · exact ⟨-1, σ, μ, t_X8_sounded ⟨fun _ => ⟨rfl, rfl⟩, fun _ => ⟨fun _ => ⟨rfl, rfl⟩, fun _ => ⟨fun _ => ⟨rfl, rfl⟩, fun _ => ⟨fun z => absurd (we.mp z) qe, fun _ => ⟨rfl, rfl⟩⟩⟩⟩⟩, t_X9_sounded ⟨fun _ => ⟨rfl, rfl⟩, fun _ => ⟨fun _ => ⟨rfl, rfl⟩, fun _ => ⟨fun _ => ⟨rfl, rfl⟩, fun _ => ⟨fun _ => ⟨rfl, rfl⟩, fun _ => ⟨fun z => absurd (ve.mp z) qe, fun _ => ⟨rfl, rfl⟩⟩⟩⟩⟩⟩, h⟩
    · have d1 : ¬ d < 1 → (6 : Int32) < d := by
        intro z
        rw [lt_I] at z ⊢
        apply Int.not_le.mp
        intro z2; exact qd ⟨by omega, z2⟩
      exact ⟨-1, σ, μ, t_X8_sounded ⟨fun _ => ⟨rfl, rfl⟩, fun _ => ⟨fun _ => ⟨rfl, rfl⟩, fun z => ⟨fun _ => ⟨rfl, rfl⟩, fun z2 => absurd (d1 z) z2⟩⟩⟩, t_X9_sounded ⟨fun _ => ⟨rfl, rfl⟩, fun _ => ⟨fun _ => ⟨rfl, rfl⟩, fun _ => ⟨fun _ => ⟨rfl, rfl⟩, fun _ => ⟨fun _ => ⟨rfl, rfl⟩, fun z => absurd z qd⟩⟩⟩⟩, h⟩
  · exact ⟨-1, σ, μ, t_X8_sounded ⟨fun _ => ⟨rfl, rfl⟩, fun z => absurd ((I1_th i1).mp z) qt⟩, t_X9_sounded ⟨fun _ => ⟨rfl, rfl⟩, fun z => absurd ((I1_tm i1).mp z) qt⟩, h⟩
