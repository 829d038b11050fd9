/-! numbers: Int32 as naturals -/
theorem n_bv (a : Nat) : (nI a).toBitVec = BitVec.ofNat 32 a := rfl
theorem n_inj {x y : Int32} (h : x.toBitVec = y.toBitVec) : x = y := Int32.toBitVec_inj.mp h
theorem n_and (a b : Nat) : nI a &&& nI b = nI (a &&& b) := by
  apply n_inj; rw [Int32.toBitVec_and, n_bv, n_bv, n_bv, BitVec.ofNat_and]
theorem n_or (a b : Nat) : nI a ||| nI b = nI (a ||| b) := by
  apply n_inj; rw [Int32.toBitVec_or, n_bv, n_bv, n_bv, BitVec.ofNat_or]
theorem n_xor (a b : Nat) : nI a ^^^ nI b = nI (a ^^^ b) := by
  apply n_inj; rw [Int32.toBitVec_xor, n_bv, n_bv, n_bv, BitVec.ofNat_xor]
theorem n_m1 : (-1 : Int32) = nI 4294967295 := by decide +kernel
theorem n_lit (n : Nat) : (OfNat.ofNat n : Int32) = nI n := rfl
theorem n_one : ∀ k, k < 31 → (1 : Int32) <<< (nI k &&& 31) = nI (2 ^ k) := by decide +kernel
theorem n_two : ∀ k, k < 30 → (2 : Int32) <<< (nI k &&& 31) = nI (2 ^ (k + 1)) := by decide +kernel
theorem n_sm : ∀ k, k < 32 → ((nI k &&& 31).toBitVec.smod 32).toNat = k := by decide +kernel
theorem n_shl {a k : Nat} (hk : k < 31) (h : a * 2 ^ k < 2 ^ 32) : nI a <<< (nI k &&& 31) = nI (a * 2 ^ k) := pk_shlN _ k (n_sm k (by omega)) h
theorem n_shr {a k : Nat} (ha : a < 2 ^ 31) (hk : k < 31) : nI a >>> (nI k &&& 31) = nI (a / 2 ^ k) := pk_shrN ha _ k (n_sm k (by omega))
theorem n_eq0 {a : Nat} (h : a < 2 ^ 31) : nI a = 0 ↔ a = 0 := by rw [← nI_0]; exact nI_eq h (by decide)
theorem n_bit {a k : Nat} (ha : a < 2 ^ 31) (hk : k < 31) : (nI a >>> (nI k &&& 31)) &&& 1 = nI (a / 2 ^ k % 2) := by
  rw [n_shr ha hk, show (1 : Int32) = nI 1 from rfl, n_and, Nat.and_one_is_mod]
theorem n_hs {a k : Nat} (ha : a < 2 ^ 31) (hk : k < 31) : hs (nI a) (nI k) ↔ a.testBit k = true := by
  unfold hs
  rw [n_bit ha hk, show (1 : Int32) = nI 1 from rfl, nI_eq (by omega) (by decide), Nat.testBit_eq_decide_div_mod_eq]
  simp
/-- a without b -/
def nd (a b : Nat) : Nat := a &&& (b ^^^ 4294967295)
theorem n_nd (a b : Nat) : nI a &&& (nI b ^^^ -1) = nI (nd a b) := by
  rw [n_m1, n_xor, n_and]; rfl
theorem nd_bit {a b k : Nat} (ha : a < 2 ^ 32) : (nd a b).testBit k = (a.testBit k && !b.testBit k) := by
  unfold nd
  rw [Nat.testBit_and, Nat.testBit_xor, show (4294967295 : Nat) = 2 ^ 32 - 1 from rfl, Nat.testBit_two_pow_sub_one]
  by_cases hk : k < 32
  · simp [hk]
  · have : a.testBit k = false := Nat.testBit_lt_two_pow (Nat.lt_of_lt_of_le ha (Nat.pow_le_pow_right (by decide) (by omega)))
    simp [this]
theorem nd_le (a b : Nat) : nd a b ≤ a := Nat.and_le_left
/-- a is part of b -/
def sb (a b : Nat) : Prop := ∀ k, a.testBit k = true → b.testBit k = true
theorem nd_0 {a b : Nat} (ha : a < 2 ^ 32) : nd a b = 0 ↔ sb a b := by
  constructor
  · intro h k hk
    have h1 : (nd a b).testBit k = false := by rw [h]; simp
    rw [nd_bit ha, hk] at h1
    simpa using h1
  · intro h
    apply Nat.eq_of_testBit_eq
    intro k
    rw [nd_bit ha, Nat.zero_testBit]
    cases hk : a.testBit k with
    | false => rfl
    | true => rw [h k hk]; rfl
theorem sb_and {a b : Nat} : sb a b ↔ a &&& b = a := by
  constructor
  · intro h
    apply Nat.eq_of_testBit_eq
    intro k
    rw [Nat.testBit_and]
    cases hk : a.testBit k with
    | false => rfl
    | true => rw [h k hk]; rfl
  · intro h k hk
    rw [← h, Nat.testBit_and] at hk
    simp at hk
    exact hk.2
theorem sb_le {a b : Nat} (h : sb a b) : a ≤ b := by rw [← sb_and.mp h]; exact Nat.and_le_right
theorem nd_self {a b : Nat} (ha : a < 2 ^ 32) (h : ∀ k, a.testBit k = true → b.testBit k = false) : nd a b = a := by
  apply Nat.eq_of_testBit_eq
  intro k
  rw [nd_bit ha]
  cases hk : a.testBit k with
  | false => rfl
  | true => rw [h k hk]; rfl
theorem bit_lt {a n k : Nat} (ha : a < 2 ^ n) (hk : a.testBit k = true) : k < n := by
  rcases Nat.lt_or_ge k n with h | h
  · exact h
  · rw [Nat.testBit_lt_two_pow (Nat.lt_of_lt_of_le ha (Nat.pow_le_pow_right (by decide) h))] at hk
    cases hk
theorem nd_p {m v : Nat} (hm : m < 4096) (hv : 12 ≤ v) : nd m (2 ^ v) = m := by
  refine nd_self (by omega) (fun k hk => ?_)
  have := bit_lt (n := 12) hm hk
  rw [Nat.testBit_two_pow]
  simp; omega
theorem or_lt {a b n : Nat} (ha : a < 2 ^ n) (hb : b < 2 ^ n) : a ||| b < 2 ^ n := Nat.or_lt_two_pow ha hb
theorem and_lt {a b n : Nat} (ha : a < n) : a &&& b < n := Nat.lt_of_le_of_lt Nat.and_le_left ha
theorem xor_lt {a b n : Nat} (ha : a < 2 ^ n) (hb : b < 2 ^ n) : a ^^^ b < 2 ^ n := Nat.xor_lt_two_pow ha hb
theorem p_lt {k n : Nat} (h : k < n) : 2 ^ k < 2 ^ n := Nat.pow_lt_pow_right (by decide) h
theorem p_pos (k : Nat) : 0 < 2 ^ k := Nat.two_pow_pos k
/-- loops -/
theorem n_le {a b : Nat} (ha : a < 2 ^ 31) (hb : b < 2 ^ 31) : nI a ≤ nI b ↔ a ≤ b := nI_leI ha hb
theorem n_lt {a b : Nat} (ha : a < 2 ^ 31) (hb : b < 2 ^ 31) : nI a < nI b ↔ a < b := nI_ltI ha hb
theorem n_in {n N : Nat} (h : n < N) (hN : N < 2 ^ 31) : vp_in (nI n) N := vp_in_nI h hN
theorem n_N {n : Nat} (h : n < 2 ^ 31) : (nI n).toNatClampNeg = n := nI_clamp h
theorem n_inc (n : Nat) : nI n + 1 = nI (n + 1) := nI_1 n
theorem n_dec (n : Nat) : nI (n + 1) + -1 = nI n := pk_m1 n
theorem n_neg {n : Nat} (h : n < 2 ^ 31) : ¬ nI n < 0 := nI_pos h
theorem n_m1neg : (nI 0 + -1 : Int32) < 0 := by decide +kernel
theorem n_T {n : Nat} (h : n < 2 ^ 31) : (nI n).toInt = (n : Int) := nI_toInt h
/-- a whole number of an argument -/
theorem n_wn {a : Int32} {n : Nat} (hn : n < 2 ^ 31) : wn a (nI n) ↔ ∃ k, k < n ∧ a = nI k := by
  constructor
  · intro ⟨h1, h2⟩
    rw [n_T hn] at h2
    refine ⟨a.toInt.toNat, by omega, ?_⟩
    apply Int32.toInt_inj.mp
    rw [n_T (by omega)]
    omega
  · rintro ⟨k, hk, rfl⟩
    unfold wn
    rw [n_T (by omega), n_T hn]
    omega
theorem n_iv {a : Int32} {n : Nat} (hn : n < 2 ^ 31) : iv a 0 (nI n) ↔ ∃ k, k ≤ n ∧ a = nI k := by
  constructor
  · intro ⟨h1, h2⟩
    rw [n_T hn] at h2
    rw [show (0 : Int32).toInt = 0 from rfl] at h1
    refine ⟨a.toInt.toNat, by omega, ?_⟩
    apply Int32.toInt_inj.mp
    rw [n_T (by omega)]
    omega
  · rintro ⟨k, hk, rfl⟩
    unfold iv
    rw [n_T (by omega), n_T hn, show (0 : Int32).toInt = 0 from rfl]
    omega
theorem n_ivm {a : Int32} {n : Nat} (hn : n < 2 ^ 31) : iv a 0 (nI n - 1) ↔ ∃ k, k < n ∧ a = nI k := by
  cases n with
  | zero =>
    constructor
    · intro ⟨h1, h2⟩
      rw [show (nI 0 - 1 : Int32).toInt = -1 by decide +kernel] at h2
      rw [show (0 : Int32).toInt = 0 from rfl] at h1
      omega
    · rintro ⟨k, hk, _⟩; omega
  | succ n =>
    rw [nI_pred, n_iv (by omega)]
    constructor
    · rintro ⟨k, h, e⟩; exact ⟨k, by omega, e⟩
    · rintro ⟨k, h, e⟩; exact ⟨k, by omega, e⟩
/-- how many of twelve -/
def popL : Nat → Nat → Nat
  | 0, _ => 0
  | k + 1, n => popL k n + n / 2 ^ k % 2
def pop (n : Nat) : Nat := popL 12 n
theorem popL_le : ∀ k n, popL k n ≤ k
  | 0, _ => Nat.le_refl _
  | k + 1, n => by
    have := popL_le k n
    have := Nat.mod_lt (n / 2 ^ k) (show 0 < 2 by decide)
    unfold popL; omega
theorem pop_le (n : Nat) : pop n ≤ 12 := popL_le 12 n
/-- stores -/
theorem s_i (σ : kS) (k i a b : Nat) (v : Int32) : (k_si σ k i v).1 a b = if a = k then (if b = i then v else σ.1 a b) else σ.1 a b := rfl
theorem s_i2 (σ : kS) (k i : Nat) (v : Int32) : (k_si σ k i v).2 = σ.2 := rfl
theorem s_l (σ : kS) (k i a b : Nat) (v : Int64) : (k_sl σ k i v).2 a b = if a = k then (if b = i then v else σ.2 a b) else σ.2 a b := rfl
theorem s_l1 (σ : kS) (k i : Nat) (v : Int64) : (k_sl σ k i v).1 = σ.1 := rfl
/-- nothing but the cells of L has changed -/
def fr (L : List Nat) (σ τ : kS) : Prop := ∀ k, k ∉ L → τ.1 k = σ.1 k ∧ τ.2 k = σ.2 k
theorem fr_rf {L : List Nat} {σ : kS} : fr L σ σ := fun _ _ => ⟨rfl, rfl⟩
theorem fr_tr {L : List Nat} {σ τ υ : kS} (h1 : fr L σ τ) (h2 : fr L τ υ) : fr L σ υ := fun k hk => ⟨(h2 k hk).1.trans (h1 k hk).1, (h2 k hk).2.trans (h1 k hk).2⟩
theorem fr_mo {L M : List Nat} {σ τ : kS} (h : fr L σ τ) (hs : ∀ k, k ∈ L → k ∈ M) : fr M σ τ := fun k hk => h k (fun q => hk (hs k q))
theorem fr_si {L : List Nat} {σ : kS} {k i : Nat} {v : Int32} (h : k ∈ L) : fr L σ (k_si σ k i v) := fun a ha => ⟨k_si_o (fun e => ha (e ▸ h)), rfl⟩
theorem fr_sl {L : List Nat} {σ : kS} {k i : Nat} {v : Int64} (h : k ∈ L) : fr L σ (k_sl σ k i v) := fun a ha => ⟨rfl, k_sl_o (fun e => ha (e ▸ h))⟩
theorem fr_1 {L : List Nat} {σ τ : kS} (h : fr L σ τ) (k i : Nat) (hk : k ∉ L) : τ.1 k i = σ.1 k i := by rw [(h k hk).1]
