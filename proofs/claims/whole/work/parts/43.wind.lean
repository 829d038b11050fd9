/-! the wind -/
theorem x_power {b e : Nat} {σ : kS} (he : e < 2 ^ 31) : R_X8_power (nI b) (nI e) σ (nI (b ^ e)) σ := by
  have key : ∀ i, i ≤ e → E_X8_power_4 (nI b) (nI e) (nI (b ^ i)) (nI i) σ (nI (b ^ e)) σ := by
    refine loop_up e ?_ (fun i hi ih => ?_)
    · exact t_X8_power_4 ⟨fun _ => ⟨rfl, rfl⟩, fun z => absurd (Int32.le_refl _) z⟩
    · refine t_X8_power_4 ⟨fun z => absurd z (nI_ge hi he), fun _ => ?_⟩
      rw [pk_mul, n_inc, ← Nat.pow_succ]; exact ih
  exact t_X8_power (key 0 (Nat.zero_le _))
theorem n_remd {a d : Nat} (h : a < 2 ^ 31) (h0 : 0 < d) (hd : d < 2 ^ 31) : nI a - nI a / nI d * nI d = nI (a % d) := pk_rem h h0 hd
theorem mod_half {b r : Nat} (h0 : 0 < r) (h : r < b) : b % r < b - b / 2 := by
  by_cases q : r ≤ b / 2
  · have := Nat.mod_lt b h0; omega
  · rw [Nat.mod_eq_sub_mod (by omega), Nat.mod_eq_of_lt (by omega)]; omega
theorem mx1 {g : Nat} (h : 0 < g) (hg : g < 2 ^ 31) : mx 1 (nI g) = nI g := by
  unfold mx
  by_cases q : 1 < g
  · exact if_pos (nI_lt (a := 1) q hg)
  · rw [show g = 1 by omega]; rfl
theorem x_gcd {σ : kS} : ∀ j a b k, a < 2 ^ 31 → b < 2 ^ j → j ≤ 30 → k + 2 * j ≤ 63 → 0 < Nat.gcd a b → E_X8_sharedDivisor_7 (nI a) (nI b) (nI k) σ (nI (Nat.gcd a b)) σ
  | 0, a, b, k, ha, hb, hj, hk, hg => by
    have : b = 0 := by omega
    subst this
    rw [Nat.gcd_zero_right] at hg ⊢
    exact t_X8_sharedDivisor_7 ⟨fun _ => ⟨(mx1 hg ha).symm, rfl⟩, fun _ => ⟨fun _ => ⟨(mx1 hg ha).symm, rfl⟩, fun z => absurd rfl z⟩⟩
  | j + 1, a, b, k, ha, hb, hj, hk, hg => by
    have h31 : 2 ^ (j + 1) ≤ 2 ^ 30 := Nat.pow_le_pow_right (by decide) (by omega)
    have hsp : 2 ^ (j + 1) = 2 * 2 ^ j := by rw [Nat.pow_succ]; omega
    by_cases q : b = 0
    · subst q
      rw [Nat.gcd_zero_right] at hg ⊢
      exact t_X8_sharedDivisor_7 ⟨fun _ => ⟨(mx1 hg ha).symm, rfl⟩, fun _ => ⟨fun _ => ⟨(mx1 hg ha).symm, rfl⟩, fun z => absurd rfl z⟩⟩
    · have nb : ¬ nI b = 0 := nI_ne0 (by omega) (by omega)
      have n64 : ∀ i, i < 64 → ¬ (64 : Int32) ≤ nI i := fun i hi => nI_ge (b := 64) hi (by decide)
      have hr := Nat.mod_lt a (show 0 < b by omega)
      have e1 : Nat.gcd a b = Nat.gcd b (a % b) := by rw [Nat.gcd_comm, Nat.gcd_rec, Nat.gcd_comm]
      refine t_X8_sharedDivisor_7 ⟨fun z => absurd z (n64 k (by omega)), fun _ => ⟨fun z => absurd z nb, fun _ => ⟨nb, ?_⟩⟩⟩
      rw [n_remd ha (by omega) (by omega), n_inc]
      by_cases q2 : a % b = 0
      · have e2 : Nat.gcd a b = b := by rw [e1, q2, Nat.gcd_zero_right]
        rw [e2, q2]
        have m1 := mx1 (g := b) (by omega) (by omega)
        exact t_X8_sharedDivisor_7 ⟨fun _ => ⟨m1.symm, rfl⟩, fun _ => ⟨fun _ => ⟨m1.symm, rfl⟩, fun z => absurd rfl z⟩⟩
      · have nr : ¬ nI (a % b) = 0 := nI_ne0 (by omega) (by omega)
        have e2 : Nat.gcd b (a % b) = Nat.gcd (a % b) (b % (a % b)) := by rw [Nat.gcd_comm, Nat.gcd_rec, Nat.gcd_comm]
        have hh := mod_half (b := b) (r := a % b) (by omega) hr
        refine t_X8_sharedDivisor_7 ⟨fun z => absurd z (n64 (k + 1) (by omega)), fun _ => ⟨fun z => absurd z nr, fun _ => ⟨nr, ?_⟩⟩⟩
        rw [n_remd (by omega) (by omega) (by omega), n_inc, e1, e2]
        exact x_gcd j (a % b) (b % (a % b)) (k + 1 + 1) (by omega) (by omega) (by omega) (by omega) (by rw [← e2, ← e1]; exact hg)
theorem m_part {u d w : Nat} {μ : kS} (hu : u < 2 ^ 31) (hd : d < 2 ^ 31) (hw : w < 2) : ∀ b a, a < 2 ^ 31 → b < 2 ^ 31 → 0 < Nat.gcd a b → E_X9_part_5 (nI u) (nI d) (nI w) (nI a) (nI b) μ (nI ((if w = 0 then u else d) / Nat.gcd a b)) μ := by
  intro b
  induction b using Nat.strongRecOn with
  | ind b ih =>
    intro a ha hb hg
    by_cases q : b = 0
    · subst q
      rw [Nat.gcd_zero_right] at hg ⊢
      have na : ¬ nI a = 0 := nI_ne0 hg ha
      refine t_X9_part_5 ⟨fun _ => ⟨fun z => ⟨na, ?_, rfl⟩, fun z => ⟨na, ?_, rfl⟩⟩, fun z => absurd (Int32.le_refl _) z⟩
      · rw [if_neg (fun c => z (by rw [c]; rfl)), pk_div hd hg ha]
      · rw [if_pos ((nI_eq (b := 0) (by omega) (by decide)).mp z), pk_div hu hg ha]
    · have hr := Nat.mod_lt a (show 0 < b by omega)
      have e1 : Nat.gcd a b = Nat.gcd b (a % b) := by rw [Nat.gcd_comm, Nat.gcd_rec, Nat.gcd_comm]
      refine t_X9_part_5 ⟨fun z => absurd z (nI_nle (by omega) hb), fun _ => ⟨nI_ne0 (by omega) hb, ?_⟩⟩
      rw [n_remd ha (by omega) hb, e1]
      exact ih (a % b) hr b hb (by omega) (by rw [← e1]; exact hg)
/-! sums over who is silent, over who sings -/
theorem sumF_add (g : Nat → Nat) (a : Nat) : ∀ b, sumF (a + b) g = sumF a g + sumF b (fun i => g (a + i))
  | 0 => rfl
  | b + 1 => by
    show sumF (a + b) g + g (a + b) = _
    rw [sumF_add g a b]
    show _ = sumF a g + (sumF b (fun i => g (a + i)) + g (a + b))
    omega
theorem sumF_mul (c : Nat) (g : Nat → Nat) : ∀ n, sumF n (fun i => c * g i) = c * sumF n g
  | 0 => rfl
  | n + 1 => by
    show sumF n _ + c * g n = c * (sumF n g + g n)
    rw [sumF_mul c g n, Nat.mul_add]
theorem sumF_2 (g : Nat → Nat) (m : Nat) : sumF (2 ^ (m + 1)) g = sumF (2 ^ m) g + sumF (2 ^ m) (fun i => g (2 ^ m + i)) := by
  rw [show 2 ^ (m + 1) = 2 ^ m + 2 ^ m by rw [Nat.pow_succ]; omega, sumF_add]
def wtS (p : Nat) (S : Nat) : Nat → Nat
  | 0 => 1
  | i + 1 => wtS p S i * (if S.testBit i then p else 10 - p)
def gsS (a S n : Nat) : Nat := orF n (fun i => a.testBit i && !S.testBit i)
def rfR (a p : Nat) : Nat → (Nat → Nat) → Nat
  | 0, f => f 0
  | n + 1, f => (10 - p) * rfR a p n (fun G => f (if a.testBit n then G ||| 2 ^ n else G)) + p * rfR a p n f
theorem tb_lo {S n i : Nat} (hi : i < n) : (2 ^ n + S).testBit i = S.testBit i := Nat.testBit_two_pow_add_gt hi S
theorem tb_hi {S n : Nat} (h : S < 2 ^ n) : (2 ^ n + S).testBit n = true := by
  rw [Nat.testBit_two_pow_add_eq, Nat.testBit_lt_two_pow h]; rfl
theorem wt_lo {p S n : Nat} : ∀ i, i ≤ n → wtS p (2 ^ n + S) i = wtS p S i
  | 0, _ => rfl
  | i + 1, h => by
    show wtS p (2 ^ n + S) i * _ = wtS p S i * _
    rw [wt_lo i (by omega), tb_lo (by omega)]
theorem gs_lo {a S n : Nat} : gsS a (2 ^ n + S) n = gsS a S n := orF_congr n (fun i hi => by rw [tb_lo hi])
theorem rf_sum (a p : Nat) : ∀ n (f : Nat → Nat), sumF (2 ^ n) (fun S => wtS p S n * f (gsS a S n)) = rfR a p n f
  | 0, f => by show 0 + 1 * f 0 = f 0; omega
  | n + 1, f => by
    rw [sumF_2]
    have e1 : sumF (2 ^ n) (fun S => wtS p S (n + 1) * f (gsS a S (n + 1))) = (10 - p) * rfR a p n (fun G => f (if a.testBit n then G ||| 2 ^ n else G)) := by
      rw [← rf_sum a p n, ← sumF_mul]
      refine sumF_congr _ (fun S hS => ?_)
      show wtS p S n * (if S.testBit n then p else 10 - p) * _ = _
      rw [Nat.testBit_lt_two_pow hS]
      have eg : gsS a S (n + 1) = if a.testBit n then gsS a S n ||| 2 ^ n else gsS a S n := by
        unfold gsS; rw [orF, Nat.testBit_lt_two_pow hS]
        by_cases q : a.testBit n = true
        · rw [q]; simp
        · rw [Bool.not_eq_true] at q; rw [q]; simp
      rw [eg, if_neg (by decide), Nat.mul_comm (wtS p S n), Nat.mul_assoc]
    have e2 : sumF (2 ^ n) (fun S => wtS p (2 ^ n + S) (n + 1) * f (gsS a (2 ^ n + S) (n + 1))) = p * rfR a p n f := by
      rw [← rf_sum a p n, ← sumF_mul]
      refine sumF_congr _ (fun S hS => ?_)
      show wtS p (2 ^ n + S) n * (if (2 ^ n + S).testBit n then p else 10 - p) * _ = _
      rw [tb_hi hS, if_pos rfl, wt_lo n (Nat.le_refl _)]
      have eg : gsS a (2 ^ n + S) (n + 1) = gsS a S n := by
        have := gs_lo (a := a) (S := S) (n := n)
        unfold gsS at this ⊢
        rw [orF, tb_hi hS, this]; simp
      rw [eg, Nat.mul_comm (wtS p S n), Nat.mul_assoc]
    rw [e1, e2]; rfl
def ctS (a p G : Nat) : Nat → Nat
  | 0 => 1
  | m + 1 => ctS a p G m * (if a.testBit m then (if G.testBit m then 10 - p else p) else (if G.testBit m then 0 else 1))
def clR (a p : Nat) : Nat → (Nat → Nat) → Nat
  | 0, f => f 0
  | m + 1, f => if a.testBit m then p * clR a p m f + (10 - p) * clR a p m (fun G => f (G ||| 2 ^ m)) else clR a p m f
theorem ct_lo {a p G n : Nat} : ∀ i, i ≤ n → ctS a p (2 ^ n + G) i = ctS a p G i
  | 0, _ => rfl
  | i + 1, h => by
    show ctS a p (2 ^ n + G) i * _ = ctS a p G i * _
    rw [ct_lo i (by omega), tb_lo (by omega)]
theorem or_add {G m : Nat} (h : G < 2 ^ m) : 2 ^ m + G = G ||| 2 ^ m := by
  have := Nat.two_pow_add_eq_or_of_lt h 1
  rw [Nat.mul_one] at this
  rw [this, Nat.or_comm]
theorem cl_sum (a p : Nat) : ∀ m (f : Nat → Nat), sumF (2 ^ m) (fun G => ctS a p G m * f G) = clR a p m f
  | 0, f => by show 0 + 1 * f 0 = f 0; omega
  | m + 1, f => by
    rw [sumF_2]
    have e1 : sumF (2 ^ m) (fun G => ctS a p G (m + 1) * f G) = (if a.testBit m then p else 1) * clR a p m f := by
      rw [← cl_sum a p m, ← sumF_mul]
      refine sumF_congr _ (fun G hG => ?_)
      show ctS a p G m * (if a.testBit m then (if G.testBit m then 10 - p else p) else (if G.testBit m then 0 else 1)) * f G = _
      rw [Nat.testBit_lt_two_pow hG]
      simp only [Bool.false_eq_true, if_false]
      rw [Nat.mul_comm (ctS a p G m), Nat.mul_assoc]
    have e2 : sumF (2 ^ m) (fun G => ctS a p (2 ^ m + G) (m + 1) * f (2 ^ m + G)) = (if a.testBit m then 10 - p else 0) * clR a p m (fun G => f (G ||| 2 ^ m)) := by
      rw [← cl_sum a p m, ← sumF_mul]
      refine sumF_congr _ (fun G hG => ?_)
      show ctS a p (2 ^ m + G) m * (if a.testBit m then (if (2 ^ m + G).testBit m then 10 - p else p) else (if (2 ^ m + G).testBit m then 0 else 1)) * f (2 ^ m + G) = _
      rw [tb_hi hG, if_pos rfl, if_pos rfl, ct_lo m (Nat.le_refl _), or_add hG, Nat.mul_comm (ctS a p G m), Nat.mul_assoc]
    rw [e1, e2]
    show _ = if a.testBit m then p * clR a p m f + (10 - p) * clR a p m (fun G => f (G ||| 2 ^ m)) else clR a p m f
    by_cases q : a.testBit m = true
    · rw [if_pos q, if_pos q, if_pos q]
    · rw [if_neg q, if_neg q, if_neg q]; omega
def kz (a : Nat) : Nat → Nat
  | 0 => 0
  | n + 1 => kz a n + (if a.testBit n then 0 else 1)
theorem rf_cl {a p : Nat} (hp : p ≤ 10) : ∀ n (f : Nat → Nat), rfR a p n f = 10 ^ kz a n * clR a p n f
  | 0, f => by show f 0 = 1 * f 0; omega
  | n + 1, f => by
    show (10 - p) * rfR a p n (fun G => f (if a.testBit n then G ||| 2 ^ n else G)) + p * rfR a p n f = 10 ^ (kz a n + (if a.testBit n then 0 else 1)) * (if a.testBit n then p * clR a p n f + (10 - p) * clR a p n (fun G => f (G ||| 2 ^ n)) else clR a p n f)
    by_cases q : a.testBit n = true
    · simp only [q, if_true, Nat.add_zero]
      rw [rf_cl hp n, rf_cl hp n, Nat.mul_add, Nat.mul_left_comm, Nat.mul_left_comm p, Nat.add_comm]
    · simp only [q, Bool.false_eq_true, if_false]
      rw [← Nat.add_mul, show 10 - p + p = 10 by omega, rf_cl hp n, Nat.pow_succ, Nat.mul_comm (10 ^ kz a n) 10, Nat.mul_assoc]
theorem rf_le {a p : Nat} (hp : p ≤ 10) : ∀ n (f : Nat → Nat), (∀ G, f G ≤ 1) → rfR a p n f ≤ 10 ^ n
  | 0, f, h => h 0
  | n + 1, f, h => by
    have h1 := Nat.mul_le_mul_left (10 - p) (rf_le (a := a) hp n (fun G => f (if a.testBit n then G ||| 2 ^ n else G)) (fun G => h _))
    have h2 := Nat.mul_le_mul_left p (rf_le (a := a) hp n f h)
    show (10 - p) * _ + p * _ ≤ _
    refine Nat.le_trans (Nat.add_le_add h1 h2) ?_
    rw [← Nat.add_mul, show 10 - p + p = 10 by omega, Nat.pow_succ, Nat.mul_comm]
    exact Nat.le_refl _
theorem tb_mod (x m : Nat) : x / 2 ^ m % 2 = if x.testBit m then 1 else 0 := by
  rw [Nat.testBit_eq_decide_div_mod_eq]
  by_cases q : x / 2 ^ m % 2 = 1
  · simp [q]
  · simp [q]; omega
theorem kz_pop (a : Nat) : ∀ n, kz a n + popL n a = n
  | 0 => rfl
  | n + 1 => by
    have := kz_pop a n
    unfold kz popL
    rw [tb_mod]
    split <;> omega
theorem popL_up {x n : Nat} (h : x < 2 ^ n) : ∀ d, popL (n + d) x = popL n x
  | 0 => rfl
  | d + 1 => by
    show popL (n + d) x + x / 2 ^ (n + d) % 2 = _
    have h2 : 2 ^ n ≤ 2 ^ (n + d) := Nat.pow_le_pow_right (by decide) (by omega)
    rw [popL_up h d, Nat.div_eq_of_lt (by omega)]; rfl
theorem pop_n {x n : Nat} (h : x < 2 ^ n) (hn : n ≤ 12) : pop x = popL n x := by
  have := popL_up h (12 - n)
  rw [show n + (12 - n) = 12 by omega] at this
  exact this
theorem cl_up {a p n : Nat} (h : a < 2 ^ n) (f : Nat → Nat) : ∀ d, clR a p (n + d) f = clR a p n f
  | 0 => rfl
  | d + 1 => by
    show (if a.testBit (n + d) then _ else clR a p (n + d) f) = _
    have h2 : 2 ^ n ≤ 2 ^ (n + d) := Nat.pow_le_pow_right (by decide) (by omega)
    rw [Nat.testBit_lt_two_pow (show a < 2 ^ (n + d) by omega), if_neg (by decide), cl_up h f d]
theorem ct_ok {a p G : Nat} (ha : a < 2 ^ 32) : ∀ m, (∀ i, i < m → G.testBit i = true → a.testBit i = true) → ctS a p G m = (10 - p) ^ popL m G * p ^ popL m (nd a G)
  | 0, _ => rfl
  | m + 1, h => by
    have ih := ct_ok (p := p) ha m (fun i hi => h i (by omega))
    have hm := h m (by omega)
    unfold ctS popL
    rw [ih, tb_mod, tb_mod, nd_bit ha]
    by_cases q : G.testBit m = true
    · rw [hm q, q]; simp [Nat.pow_succ]; rw [Nat.mul_right_comm]
    · rw [Bool.not_eq_true] at q
      rw [q]
      by_cases q2 : a.testBit m = true
      · rw [q2]; simp [Nat.pow_succ]; rw [Nat.mul_assoc]
      · rw [Bool.not_eq_true] at q2
        rw [q2]; simp
theorem ct_0 {a p G : Nat} : ∀ m, (∃ i, i < m ∧ G.testBit i = true ∧ a.testBit i = false) → ctS a p G m = 0
  | 0, ⟨i, hi, _⟩ => absurd hi (by omega)
  | m + 1, ⟨i, hi, h1, h2⟩ => by
    unfold ctS
    by_cases q : i = m
    · subst q; rw [h1, h2]; simp
    · rw [ct_0 m ⟨i, by omega, h1, h2⟩, Nat.zero_mul]
theorem sm_act {A : Nat → Nat} {n w w' : Nat} : ∀ i, (∀ j, j < i → act A w j = act A w' j) → sm A n w i = sm A n w' i
  | 0, _ => rfl
  | i + 1, h => by
    have ih := sm_act (n := n) i (fun j hj => h j (by omega))
    show (if act A w i then _ else _) = (if act A w' i then _ else _)
    rw [h i (by omega), ih]
theorem ful_act {A : Nat → Nat} {n w w' : Nat} (h : ∀ j, j < A 3 → act A w j = act A w' j) : ful A n w = ful A n w' := by
  unfold ful; rw [sm_act _ h]
def fuN (A : Nat → Nat) (n G : Nat) : Nat := if ful A n G then 1 else 0
theorem q_wind {a b c : Int32} {σ μ : kS} (h : Inv σ μ) : ∃ x τ ν, R_X8_wind a b c σ x τ ∧ R_X9_wind a b c μ x ν ∧ Inv τ ν := by
  obtain ⟨A, i1, i2, i3, i4, i5⟩ := id h
  have hc := wfc i1.1
  obtain ⟨ea, fa⟩ := I1_f i1 a
  have wb := c_wn b 11 (by decide)
  have vb := c_iv b 10 (by decide)
  have wc := c_wn c 2 (by decide)
  have vc := c_iv c 1 (by decide)
  by_cases qa : ∃ k, k < A 2 ∧ a = nI k
  · by_cases qb : ∃ k, k < 11 ∧ b = nI k
    · by_cases qc : ∃ k, k < 2 ∧ c = nI k
      · obtain ⟨f, hf, rfl⟩ := id qa
        obtain ⟨p, hp, rfl⟩ := id qb
        obtain ⟨w, hw, rfl⟩ := id qc
        have qt : 0 < A 1 := by have := i1.1.2.2.1; omega
        have hT := i1.2.2.2.2 qt
        have hwl := who_lt i1.1 f
        have hrl := rst_lt i1.1
        have hab : (who A f &&& rst A) < 2 ^ A 3 := Nat.lt_of_le_of_lt Nat.and_le_left (orF_lt _ _)
        generalize haa : who A f &&& rst A = ab at hab
        have hn5 : 2 ^ A 3 ≤ 2 ^ 5 := Nat.pow_le_pow_right (by decide) (by omega)
        have hab5 : ab < 2 ^ 5 := by omega
        let N := A (8 + f)
        let F : Nat → Nat := fun G => fuN A N G
        have F1 : ∀ G, F G ≤ 1 := fun G => by show (if _ then 1 else 0) ≤ 1; split <;> omega
        let C := clR ab p (A 3) F
        have hC5 : clR ab p 5 F = C := by
          have := cl_up (p := p) hab F (5 - A 3)
          rw [show A 3 + (5 - A 3) = 5 by omega] at this
          exact this
        have hU : rfR ab p (A 3) F = 10 ^ kz ab (A 3) * C := rf_cl (by omega) _ _
        have hUle : rfR ab p (A 3) F ≤ 10 ^ A 3 := rf_le (by omega) _ _ F1
        have h105 : 10 ^ A 3 ≤ 10 ^ 5 := Nat.pow_le_pow_right (by decide) (by omega)
        have hk0 : 0 < 10 ^ kz ab (A 3) := Nat.pow_pos (by decide)
        have hCle : C ≤ 10 ^ 5 := by
          have : 1 * C ≤ 10 ^ kz ab (A 3) * C := Nat.mul_le_mul_right _ hk0
          omega
        have hpop : pop ab = popL (A 3) ab := pop_n hab (by omega)
        have hden : 10 ^ A 3 = 10 ^ kz ab (A 3) * 10 ^ pop ab := by
          rw [← Nat.pow_add, hpop, kz_pop]
        have hpb : pop ab ≤ 5 := pop32 ab (by omega)
        have hde : 10 ^ pop ab ≤ 10 ^ 5 := Nat.pow_le_pow_right (by decide) hpb
        have hd0 : 0 < 10 ^ pop ab := Nat.pow_pos (by decide)
        have hg0 : 0 < Nat.gcd C (10 ^ pop ab) := Nat.gcd_pos_of_pos_right _ hd0
        have hgle : Nat.gcd C (10 ^ pop ab) ≤ 10 ^ pop ab := Nat.gcd_le_right _ hd0
        -- the class
        have ct5 : ∀ G, G < 32 → (nd G ab = 0 → ctS ab p G 5 = (10 - p) ^ pop G * p ^ pop (nd ab G)) ∧ (¬ nd G ab = 0 → ctS ab p G 5 = 0) := fun G hG => by
          constructor
          · intro z
            rw [nd_0 (by omega)] at z
            rw [ct_ok (by omega) 5 (fun i _ hi => z i hi), pop_n (n := 5) (by omega) (by decide), pop_n (n := 5) (Nat.lt_of_le_of_lt (nd_le _ _) hab5) (by decide)]
          · intro z
            refine ct_0 5 (Classical.byContradiction (fun y => z ?_))
            rw [nd_0 (by omega)]
            intro i hi
            have hi5 : i < 5 := bit_lt (n := 5) (by omega) hi
            cases hb : ab.testBit i with
            | true => rfl
            | false => exact absurd ⟨i, hi5, hi, hb⟩ y
        have kx : ∀ G, G ≤ 32 → ∀ σ', fr [28] σ σ' → ∃ τ, E_X8_wind_51 (nI f) (nI p) (nI w) (nI ab) (nI (sumF G (fun G => ctS ab p G 5 * F G))) (nI G) σ' (nI ((if w = 0 then C else 10 ^ pop ab) / Nat.gcd C (10 ^ pop ab))) τ ∧ fr [28] σ τ := by
          refine loop_up 32 (fun σ' g => ?_) (fun G hG ih σ' g => ?_)
          · have es : sumF 32 (fun G => ctS ab p G 5 * F G) = C := (cl_sum ab p 5 F).trans hC5
            rw [es]
            have hgc := x_gcd (σ := σ') 17 C (10 ^ pop ab) 0 (by omega) (by omega) (by decide) (by decide) hg0
            have ng : ¬ nI (Nat.gcd C (10 ^ pop ab)) = 0 := nI_ne0 hg0 (by omega)
            refine ⟨σ', t_X8_wind_51 ⟨fun _ => ⟨_, _, x_bits (by omega), _, _, x_power (b := 10) (by omega), _, _, t_X8_sharedDivisor hgc, fun z => ⟨ng, ?_, rfl⟩, fun z => ⟨ng, ?_, rfl⟩⟩, fun z => absurd (Int32.le_refl _) z⟩, g⟩
            · rw [if_neg (fun y => z (by rw [y]; rfl)), pk_div (by omega) hg0 (by omega)]
            · rw [if_pos ((nI_eq (b := 0) (by omega) (by decide)).mp z), pk_div (by omega) hg0 (by omega)]
          · have n32 : ¬ (32 : Int32) ≤ nI G := nI_ge (b := 32) hG (by decide)
            have hx' : vx 3 σ' A := vx_kp i1.2.2.1 (fun k a b => (g k (by simp; omega)).1)
            have hT' : CT σ' A := CT_o hT (g 25 (by decide)).1 (g 26 (by decide)).1
            have hss : sumF (G + 1) (fun G => ctS ab p G 5 * F G) = sumF G (fun G => ctS ab p G 5 * F G) + ctS ab p G 5 * F G := rfl
            have en : nI G &&& (nI ab ^^^ -1) = nI (nd G ab) := n_nd _ _
            have hndl := nd_le G ab
            have e0 : (nI (nd G ab) = 0 ↔ nd G ab = 0) := n_eq0 (by omega)
            by_cases q : nd G ab = 0
            · have hs := x_sing (v := 3) (w := G) rfl hx' hT' i1.1 hf hG
              have hu : fr [28] σ' (xsU A (A (8 + f)) G σ') := fr_up (by simp)
              by_cases q2 : ful A N G = true
              · have eF : F G = 1 := by show (if ful A N G then 1 else 0) = 1; rw [if_pos q2]
                obtain ⟨τ, j1, j2⟩ := ih (xsU A (A (8 + f)) G σ') (fr_tr g hu)
                refine ⟨τ, t_X8_wind_51 ⟨fun z => absurd z n32, fun _ => ⟨fun z => absurd (by rw [en]; exact e0.mpr q) z, fun _ => ⟨_, _, hs, fun z => ?_, fun _ => ⟨_, _, x_bits (by omega), ?_⟩⟩⟩⟩, j2⟩
                · rw [bN_0] at z; exact absurd (z.symm.trans q2) (by decide)
                · have ep : (10 : Int32) - nI p = nI (10 - p) := by rw [show (10 : Int32) = nI 10 from rfl, pk_sub (by omega)]
                  have en2 : nI ab &&& (nI G ^^^ -1) = nI (nd ab G) := n_nd _ _
                  have hndl2 := nd_le ab G
                  rw [ep, en2]
                  refine ⟨_, _, x_power (by have := pop_le G; omega), _, _, x_bits (by omega), _, _, x_power (by have := pop_le (nd ab G); omega), ?_⟩
                  rw [pk_mul, nI_add, n_inc, ← (ct5 G hG).1 q, show ctS ab p G 5 = ctS ab p G 5 * F G by rw [eF, Nat.mul_one]]
                  exact j1
              · have eF : F G = 0 := by show (if ful A N G then 1 else 0) = 0; rw [if_neg q2]
                obtain ⟨τ, j1, j2⟩ := ih (xsU A (A (8 + f)) G σ') (fr_tr g hu)
                refine ⟨τ, t_X8_wind_51 ⟨fun z => absurd z n32, fun _ => ⟨fun z => absurd (by rw [en]; exact e0.mpr q) z, fun _ => ⟨_, _, hs, fun _ => ?_, fun z => ?_⟩⟩⟩, j2⟩
                · rw [n_inc]; rw [hss, eF, Nat.mul_zero, Nat.add_zero] at j1; exact j1
                · exact absurd (bN_0.mpr (by rw [Bool.not_eq_true] at q2; exact q2)) z
            · obtain ⟨τ, j1, j2⟩ := ih σ' g
              refine ⟨τ, t_X8_wind_51 ⟨fun z => absurd z n32, fun _ => ⟨fun _ => ?_, fun z => absurd (e0.mp (by rw [← en]; exact z)) q⟩⟩, j2⟩
              rw [hss, (ct5 G hG).2 q, Nat.zero_mul, Nat.add_zero] at j1
              rw [n_inc]; exact j1
        -- the reference
        have hres : (if w = 0 then rfR ab p (A 3) F else 10 ^ A 3) / Nat.gcd (rfR ab p (A 3) F) (10 ^ A 3) = (if w = 0 then C else 10 ^ pop ab) / Nat.gcd C (10 ^ pop ab) := by
          rw [hU, hden, Nat.gcd_mul_left]
          by_cases z : w = 0
          · rw [if_pos z, if_pos z, Nat.mul_div_mul_left _ _ hk0]
          · rw [if_neg z, if_neg z, Nat.mul_div_mul_left _ _ hk0]
        have hden0 : 0 < 10 ^ A 3 := Nat.pow_pos (by decide)
        have hfe : ∀ S, S < 2 ^ A 3 → ful A N (nd (who A f) S) = ful A N (gsS ab S (A 3)) := fun S hS => ful_act (fun j hj => by
          unfold act
          rw [nd_bit (by omega), gsS, orF_bit, ← haa, Nat.testBit_and]
          have er : (rst A).testBit j = decide (A (28 + j) < 8) := by unfold rst; rw [orF_bit]; simp [hj]
          rw [er]
          simp only [hj, decide_true, Bool.true_and]
          cases (who A f).testBit j <;> cases S.testBit j <;> cases decide (A (28 + j) < 8) <;> rfl)
        have km : ∀ S, S ≤ 2 ^ A 3 → ∀ μ', fr [11] μ μ' → ∃ ν, E_X9_wind_75 (nI f) (nI p) (nI w) (nI (who A f)) (nI (sumF S (fun S => wtS p S (A 3) * F (gsS ab S (A 3))))) (nI (10 ^ A 3)) (nI S) μ' (nI ((if w = 0 then C else 10 ^ pop ab) / Nat.gcd C (10 ^ pop ab))) ν ∧ fr [11] μ ν := by
          refine loop_up (2 ^ A 3) (fun μ' g => ?_) (fun S hS ih μ' g => ?_)
          · have e5 : μ'.1 5 3 = nI (A 3) := by rw [(g 5 (by decide)).1]; exact mr_n i1.2.2.2.1 (by decide)
            rw [rf_sum ab p (A 3) F, ← hres]
            refine ⟨μ', t_X9_wind_75 ⟨fun _ => ⟨_, _, t_X9_part (m_part (by omega) (by omega) hw _ _ (by omega) (by omega) (Nat.gcd_pos_of_pos_right _ hden0)), rfl, rfl⟩, fun z => absurd ?_ z⟩, g⟩
            rw [e5, n_one _ (by omega)]; exact Int32.le_refl _
          · have e5 : ∀ μ'', fr [11] μ μ'' → μ''.1 5 3 = nI (A 3) := fun μ'' g => by rw [(g 5 (by decide)).1]; exact mr_n i1.2.2.2.1 (by decide)
            have hm' : mr 5 μ' A := mr_kp i1.2.2.2.1 (g 5 (by decide)).1
            have hss : sumF (S + 1) (fun S => wtS p S (A 3) * F (gsS ab S (A 3))) = sumF S (fun S => wtS p S (A 3) * F (gsS ab S (A 3))) + wtS p S (A 3) * F (gsS ab S (A 3)) := rfl
            have ew : nI (who A f) &&& (nI S ^^^ -1) = nI (nd (who A f) S) := n_nd _ _
            have hndl := nd_le (who A f) S
            have hs := m_singIn (r := 5) (w := nd (who A f) S) rfl (by decide) hm' i1.1 hf (by omega)
            have hu : fr [11] μ' (siU A (A (8 + f)) (nd (who A f) S) μ') := fr_up (by simp)
            obtain ⟨ν, j1, j2⟩ := ih (siU A (A (8 + f)) (nd (who A f) S) μ') (fr_tr g hu)
            have inn : ∀ i, i ≤ A 3 → E_X9_wind_94 (nI f) (nI p) (nI w) (nI (who A f)) (nI (sumF S (fun S => wtS p S (A 3) * F (gsS ab S (A 3))))) (nI (10 ^ A 3)) (nI S) (nI (wtS p S i)) (nI i) μ' (nI ((if w = 0 then C else 10 ^ pop ab) / Nat.gcd C (10 ^ pop ab))) ν := by
              refine loop_up (A 3) ?_ (fun i hi ih2 => ?_)
              · refine t_X9_wind_94 ⟨fun _ => ⟨_, _, by rw [ew]; exact hs, fun z => ?_, fun z => ?_⟩, fun z => absurd (by rw [e5 μ' g]; exact Int32.le_refl _) z⟩
                · have q2 : ¬ ful A N (gsS ab S (A 3)) = true := fun y => z (siI_0.mpr (by rw [← hfe S hS] at y; exact y))
                  have eF : F (gsS ab S (A 3)) = 0 := by show (if _ then 1 else 0) = 0; rw [if_neg q2]
                  rw [hss, eF, Nat.mul_zero, Nat.add_zero] at j1
                  rw [n_inc, show (0 : Int32) = nI 0 from rfl, nI_add, Nat.add_zero]; exact j1
                · have q2 : ful A N (gsS ab S (A 3)) = true := by rw [← hfe S hS]; exact siI_0.mp z
                  have eF : F (gsS ab S (A 3)) = 1 := by show (if _ then 1 else 0) = 1; rw [if_pos q2]
                  rw [hss, eF, Nat.mul_one] at j1
                  rw [n_inc, nI_add]; exact j1
              · refine t_X9_wind_94 ⟨fun z => absurd z (by rw [e5 μ' g]; exact nI_ge hi (by omega)), fun _ => ?_⟩
                have hS5 : S < 2 ^ 5 := by omega
                rw [n_hs (by omega) (by omega), n_inc]
                have ep : (10 : Int32) - nI p = nI (10 - p) := by rw [show (10 : Int32) = nI 10 from rfl, pk_sub (by omega)]
                rw [ep, pk_mul, pk_mul]
                refine ⟨fun z => ?_, fun z => ?_⟩
                · have : wtS p S (i + 1) = wtS p S i * (10 - p) := by show _ * (if _ then _ else _) = _; rw [if_neg z]
                  rw [← this]; exact ih2
                · have : wtS p S (i + 1) = wtS p S i * p := by show _ * (if _ then _ else _) = _; rw [if_pos z]
                  rw [← this]; exact ih2
            refine ⟨ν, t_X9_wind_75 ⟨fun z => absurd z ?_, fun _ => inn 0 (Nat.zero_le _)⟩, j2⟩
            rw [e5 μ' g, n_one _ (by omega)]; exact nI_ge hS (by omega)
        obtain ⟨τ, x1, x2⟩ := kx 0 (by decide) σ fr_rf
        obtain ⟨ν, m1, m2⟩ := km 0 (Nat.zero_le _) μ fr_rf
        have k48 : ∀ i, i ≤ A 3 → E_X9_wind_48 (nI f) (nI p) (nI w) (nI (who A f)) 0 (nI (10 ^ i)) (nI i) μ (nI ((if w = 0 then C else 10 ^ pop ab) / Nat.gcd C (10 ^ pop ab))) ν := by
          have e5 : μ.1 5 3 = nI (A 3) := mr_n i1.2.2.2.1 (by decide)
          refine loop_up (A 3) ?_ (fun i hi ih => ?_)
          · exact t_X9_wind_48 ⟨fun _ => m1, fun z => absurd (by rw [e5]; exact Int32.le_refl _) z⟩
          · refine t_X9_wind_48 ⟨fun z => absurd z (by rw [e5]; exact nI_ge hi (by omega)), fun _ => ?_⟩
            rw [show (10 : Int32) = nI 10 from rfl, pk_mul, n_inc, ← Nat.pow_succ]; exact ih
        refine ⟨_, τ, ν, t_X8_wind ⟨fun z => absurd (ea.mpr qa) z, fun _ => ⟨fun z => absurd (wb.mpr qb) z, fun _ => ⟨fun _ => ⟨_, _, x_standing (v := 3) rfl i1.2.2.1 i1.1 (by omega), _, _, x_rested (v := 3) rfl i1.2.2.1 i1.1, ?_⟩, fun z => absurd (wc.mpr qc) z⟩⟩⟩, t_X9_wind ⟨fun z => absurd (fa.mpr qa) z, fun _ => ⟨fun z => absurd (vb.mpr qb) z, fun _ => ⟨fun _ => ⟨_, _, m_whoAt (r := 5) rfl i1.2.2.2.1 i1.1 (by omega), k48 0 (Nat.zero_le _)⟩, fun z => absurd (vc.mpr qc) z⟩⟩⟩, Inv_sc h (fr_mo x2 sc28) m2 sc11⟩
        rw [n_and, haa]; exact x1
      · exact ⟨-1, σ, μ, t_X8_wind ⟨fun _ => ⟨rfl, rfl⟩, fun _ => ⟨fun _ => ⟨rfl, rfl⟩, fun _ => ⟨fun z => absurd (wc.mp z) qc, fun _ => ⟨rfl, rfl⟩⟩⟩⟩, t_X9_wind ⟨fun _ => ⟨rfl, rfl⟩, fun _ => ⟨fun _ => ⟨rfl, rfl⟩, fun _ => ⟨fun z => absurd (vc.mp z) qc, fun _ => ⟨rfl, rfl⟩⟩⟩⟩, h⟩
    · exact ⟨-1, σ, μ, t_X8_wind ⟨fun _ => ⟨rfl, rfl⟩, fun _ => ⟨fun _ => ⟨rfl, rfl⟩, fun z => absurd (wb.mp z) qb⟩⟩, t_X9_wind ⟨fun _ => ⟨rfl, rfl⟩, fun _ => ⟨fun _ => ⟨rfl, rfl⟩, fun z => absurd (vb.mp z) qb⟩⟩, h⟩
  · exact ⟨-1, σ, μ, t_X8_wind ⟨fun _ => ⟨rfl, rfl⟩, fun z => absurd (ea.mp z) qa⟩, t_X9_wind ⟨fun _ => ⟨rfl, rfl⟩, fun z => absurd (fa.mp z) qa⟩, h⟩
