/-! what is meant, in naturals -/
theorem loop_up {P : Nat → Prop} (n : Nat) (he : P n) (hs : ∀ i, i < n → P (i + 1) → P i) : ∀ i, i ≤ n → P i := by
  intro i hi
  obtain ⟨m, hm⟩ : ∃ m, i + m = n := ⟨n - i, by omega⟩
  clear hi
  induction m generalizing i with
  | zero => have : i = n := by omega
            subst this; exact he
  | succ m ih => exact hs i (by omega) (ih (i + 1) (by omega))
def orF : Nat → (Nat → Bool) → Nat
  | 0, _ => 0
  | n + 1, P => orF n P ||| (if P n then 2 ^ n else 0)
theorem orF_bit (P : Nat → Bool) : ∀ n k, (orF n P).testBit k = (decide (k < n) && P k)
  | 0, k => by simp [orF]
  | n + 1, k => by
    rw [orF, Nat.testBit_or, orF_bit P n k]
    by_cases hP : P n = true
    · rw [if_pos hP, Nat.testBit_two_pow]
      by_cases hk : n = k
      · subst hk; simp [hP]
      · have : (k < n + 1) = (k < n) := by simp; omega
        simp [hk, this]
    · rw [if_neg hP]
      by_cases hk : k = n
      · subst hk; simp at hP; simp [hP]
      · have : (k < n + 1) = (k < n) := by simp; omega
        simp [this]
theorem orF_lt (P : Nat → Bool) : ∀ n, orF n P < 2 ^ n
  | 0 => by simp [orF]
  | n + 1 => by
    rw [orF]
    refine or_lt (Nat.lt_trans (orF_lt P n) (p_lt (by omega))) ?_
    split
    · exact p_lt (by omega)
    · exact p_pos _
theorem orF_lt' (P : Nat → Bool) {n m : Nat} (h : n ≤ m) : orF n P < 2 ^ m := Nat.lt_of_lt_of_le (orF_lt P n) (Nat.pow_le_pow_right (by decide) h)
theorem orF_congr {P Q : Nat → Bool} : ∀ n, (∀ i, i < n → P i = Q i) → orF n P = orF n Q
  | 0, _ => rfl
  | n + 1, h => by rw [orF, orF, orF_congr n (fun i hi => h i (by omega)), h n (by omega)]
theorem orF_t {P : Nat → Bool} {n : Nat} (h : P n = true) : orF (n + 1) P = orF n P ||| 2 ^ n := by rw [orF, if_pos h]
theorem orF_f {P : Nat → Bool} {n : Nat} (h : P n = false) : orF (n + 1) P = orF n P := by rw [orF, h]; simp
/-- a valley: 0 hour, 1 shapes, 2 fields, 3 singers, 4.. shapes, 8.. sounds, 13.. kinds, 18.. low, 23.. high, 28.. tired, 33.. place (9 home) -/
def vI (A : Nat → Nat) (i : Nat) : Int32 := if 33 ≤ i ∧ A i = 9 then -4 else nI (A i)
def pI (n : Nat) : Int32 := if n = 9 then -1 else nI n
def WF (A : Nat → Nat) : Prop := A 0 ≤ 20000 ∧ (A 1 ≤ 4 ∧ A 2 ≤ 5 ∧ A 3 ≤ 5) ∧ ((A 1 = 0 ↔ A 2 = 0) ∧ (A 2 = 0 ↔ A 3 = 0)) ∧ (∀ i, i < A 1 → A (4 + i) < 4096 ∧ 2 ≤ pop (A (4 + i)) ∧ pop (A (4 + i)) ≤ 5) ∧ (∀ i, i < A 2 → A (8 + i) < 4096) ∧
  ∀ i, i < A 3 → (1 ≤ A (13 + i) ∧ A (13 + i) ≤ 5) ∧ (A (18 + i) ≤ A (23 + i) ∧ A (23 + i) ≤ 11) ∧ A (28 + i) ≤ 10 ∧ (A (33 + i) < A 2 ∨ A (33 + i) = 9)
/-- the class's valley v holds A -/
def vx (v : Nat) (σ : kS) (A : Nat → Nat) : Prop := (σ.1 v 0 = nI (A 1) ∧ σ.1 v 1 = nI (A 2) ∧ σ.1 v 2 = nI (A 3) ∧ σ.1 v 3 = nI (A 0)) ∧ (∀ i, i < A 1 → σ.1 (v + 1) i = nI (A (4 + i))) ∧ (∀ i, i < A 2 → σ.1 (v + 2) i = nI (A (8 + i))) ∧
  ∀ i, i < A 3 → σ.1 (v + 3) i = nI (A (13 + i)) ∧ σ.1 (v + 4) i = nI (A (18 + i)) ∧ σ.1 (v + 5) i = nI (A (23 + i)) ∧ σ.1 (v + 7) i = nI (A (28 + i)) ∧ σ.1 (v + 6) i = pI (A (33 + i))
/-- the reference's row r holds A -/
def mr (r : Nat) (σ : kS) (A : Nat → Nat) : Prop := ∀ i, i < 38 → σ.1 r i = vI A i
theorem vx_kp {v : Nat} {σ τ : kS} {A : Nat → Nat} (h : vx v σ A) (hk : ∀ k, v ≤ k → k ≤ v + 7 → τ.1 k = σ.1 k) : vx v τ A := by
  unfold vx at *
  rw [hk v (by omega) (by omega), hk (v + 1) (by omega) (by omega), hk (v + 2) (by omega) (by omega), hk (v + 3) (by omega) (by omega), hk (v + 4) (by omega) (by omega), hk (v + 5) (by omega) (by omega), hk (v + 6) (by omega) (by omega), hk (v + 7) (by omega) (by omega)]
  exact h
theorem mr_kp {r : Nat} {σ τ : kS} {A : Nat → Nat} (h : mr r σ A) (hk : τ.1 r = σ.1 r) : mr r τ A := by
  unfold mr; rw [hk]; exact h
theorem mr_n {r : Nat} {σ : kS} {A : Nat → Nat} (h : mr r σ A) {i : Nat} (hi : i < 33) : σ.1 r i = nI (A i) := by
  rw [h i (by omega), vI, if_neg (by omega)]
theorem pI_eq {n f : Nat} (hf : f < 9) (hn : n ≤ 9) : pI n = nI f ↔ n = f := by
  unfold pI
  by_cases h : n = 9
  · rw [if_pos h]
    constructor
    · intro q
      have := congrArg Int32.toInt q
      rw [n_T (by omega), show (-1 : Int32).toInt = -1 from rfl] at this
      omega
    · intro q; omega
  · rw [if_neg h, nI_eq (by omega) (by omega)]
theorem vI_at {A : Nat → Nat} {i f : Nat} (hi : 33 ≤ i) (hf : f < 9) (hn : A i ≤ 9) : vI A i = nI f ↔ A i = f := by
  unfold vI
  by_cases h : A i = 9
  · rw [if_pos ⟨hi, h⟩]
    constructor
    · intro q
      have := congrArg Int32.toInt q
      rw [n_T (by omega), show (-4 : Int32).toInt = -4 from rfl] at this
      omega
    · intro q; omega
  · rw [if_neg (fun q => h q.2), nI_eq (by omega) (by omega)]
theorem tP_pI {n : Nat} (hn : n ≤ 9) : tP (pI n) = if n = 9 then -4 else nI n := by
  unfold tP pI
  by_cases h : n = 9
  · rw [if_pos h, if_pos rfl, if_pos h]
  · rw [if_neg h, if_neg h, if_neg]
    intro q
    have := congrArg Int32.toInt q
    rw [n_T (by omega), show (-1 : Int32).toInt = -1 from rfl] at this
    omega
def rst (A : Nat → Nat) : Nat := orF (A 3) (fun i => decide (A (28 + i) < 8))
def who (A : Nat → Nat) (f : Nat) : Nat := orF (A 3) (fun i => decide (A (33 + i) = f))
def sumF : Nat → (Nat → Nat) → Nat
  | 0, _ => 0
  | n + 1, f => sumF n f + f n
theorem sumF_le {f : Nat → Nat} {c : Nat} : ∀ n, (∀ i, i < n → f i ≤ c) → sumF n f ≤ n * c
  | 0, _ => by simp [sumF]
  | n + 1, h => by
    have := sumF_le n (fun i hi => h i (by omega))
    have := h n (by omega)
    rw [sumF, Nat.succ_mul]; omega
theorem sumF_congr {f g : Nat → Nat} : ∀ n, (∀ i, i < n → f i = g i) → sumF n f = sumF n g
  | 0, _ => rfl
  | n + 1, h => by rw [sumF, sumF, sumF_congr n (fun i hi => h i (by omega)), h n (by omega)]
def trd (A : Nat → Nat) : Nat := sumF (A 3) (fun i => A (28 + i))
def rng (A : Nat → Nat) (i : Nat) : Nat := 2 ^ (A (23 + i) + 1) - 2 ^ A (18 + i)
def rot (s r : Nat) : Nat := (s * 2 ^ r ||| s * 2 ^ r / 4096) &&& 4095
def crd (A : Nat → Nat) (c : Nat) : Nat := rot (A (4 + c / 12)) (c % 12)
def cst (A : Nat → Nat) (n : Nat) (st : Option Nat × Nat) (c : Nat) : Option Nat × Nat := if nd n (crd A c) = 0 ∧ pop (crd A c) < st.2 then (some c, pop (crd A c)) else st
def csc (A : Nat → Nat) (n m : Nat) : Option Nat × Nat := (List.range m).foldl (cst A n) (none, 13)
/-- the chord of a set: 12 times its shape, and its root -/
def chd (A : Nat → Nat) (n : Nat) : Option Nat := if n = 0 then none else (csc A n (12 * A 1)).1
def cI (c : Option Nat) : Int32 := match c with
  | none => -1
  | some c => nI c
def mis (A : Nat → Nat) (n : Nat) : Nat := match chd A n with
  | none => 0
  | some c => nd (crd A c) n
def rtn (A : Nat → Nat) (n : Nat) : Nat := (chd A n).getD 0 % 12
def lwN (m : Nat) : Nat := ((List.range 12).find? (fun v => m.testBit v)).getD 12
def hiG : Nat → Nat → Nat
  | 0, _ => 12
  | k + 1, m => if m.testBit k then k else hiG k m
def hiN (m : Nat) : Nat := hiG 12 m
/-- what one of a kind sings, above a root, of what may be sung; 12: nothing -/
def chN (k r m : Nat) : Nat := if m = 0 then 12 else match k with
  | 2 => hiN m
  | 3 => if m.testBit ((r + 3) % 12) then (r + 3) % 12 else if m.testBit ((r + 4) % 12) then (r + 4) % 12 else lwN m
  | 4 => if m.testBit r then r else 12
  | 5 => if m.testBit r then r else if m.testBit ((r + 7) % 12) then (r + 7) % 12 else 12
  | _ => lwN m
def act (A : Nat → Nat) (w i : Nat) : Bool := w.testBit i && decide (A (28 + i) < 8)
/-- what is missing of a set's chord behind i singers of w -/
def sm (A : Nat → Nat) (n w : Nat) : Nat → Nat
  | 0 => mis A n
  | i + 1 => if act A w i then nd (sm A n w i) (2 ^ chN (A (13 + i)) (rtn A n) (sm A n w i &&& rng A i)) else sm A n w i
def sv (A : Nat → Nat) (n w i : Nat) : Nat := chN (A (13 + i)) (rtn A n) (sm A n w i &&& rng A i)
def sng (A : Nat → Nat) (n w i : Nat) : Nat := if act A w i then sv A n w i else 12
def ful (A : Nat → Nat) (n w : Nat) : Bool := (chd A n).isSome && decide (sm A n w (A 3) = 0)
/-- all sing where they stand -/
def sgA (A : Nat → Nat) (i : Nat) : Nat := if A (33 + i) < A 2 then sng A (A (8 + A (33 + i))) (who A (A (33 + i))) i else 12
def fuA (A : Nat → Nat) : Nat := orF (A 2) (fun f => ful A (A (8 + f)) (who A f))
def eff (k : Nat) : Nat := ([0, 2, 3, 2, 1, 0] : List Nat).getD k 0
def hrA (A : Nat → Nat) (j : Nat) : Nat := if j = 0 then A 0 + 1 else if 28 ≤ j ∧ j < 28 + A 3 then (if sgA A (j - 28) = 12 then A j - 1 else A j + eff (A (j - 15))) else A j
theorem wfc {A : Nat → Nat} (h : WF A) : A 1 ≤ 4 ∧ A 2 ≤ 5 ∧ A 3 ≤ 5 := h.2.1
theorem rst_lt {A : Nat → Nat} (h : WF A) : rst A < 32 := orF_lt' _ (m := 5) (wfc h).2.2
theorem who_lt {A : Nat → Nat} (h : WF A) (f : Nat) : who A f < 32 := orF_lt' _ (m := 5) (wfc h).2.2
theorem trd_le {A : Nat → Nat} (h : WF A) : trd A ≤ 50 := by
  have h1 := sumF_le (f := fun i => A (28 + i)) (c := 10) (A 3) (fun i hi => (h.2.2.2.2.2 i hi).2.2.1)
  have := (wfc h).2.2
  have : A 3 * 10 ≤ 50 := by omega
  unfold trd; omega
theorem rng_lt {A : Nat → Nat} (h : WF A) {i : Nat} (hi : i < A 3) : rng A i < 4096 := by
  have := (h.2.2.2.2.2 i hi).2.1.2
  have h2 : 2 ^ (A (23 + i) + 1) ≤ 2 ^ 12 := Nat.pow_le_pow_right (by decide) (by omega)
  have := p_pos (A (18 + i))
  unfold rng; omega
theorem rot_lt (s r : Nat) : rot s r < 4096 := Nat.lt_of_le_of_lt Nat.and_le_right (by decide)
theorem mis_lt {A : Nat → Nat} (n : Nat) : mis A n < 4096 := by
  unfold mis
  split
  · decide
  · exact Nat.lt_of_le_of_lt (nd_le _ _) (rot_lt _ _)
theorem sm_lt {A : Nat → Nat} (n w : Nat) : ∀ i, sm A n w i < 4096
  | 0 => mis_lt n
  | i + 1 => by
    rw [sm]
    split
    · exact Nat.lt_of_le_of_lt (nd_le _ _) (sm_lt n w i)
    · exact sm_lt n w i
theorem fuA_lt {A : Nat → Nat} (h : WF A) : fuA A < 32 := orF_lt' _ (m := 5) (wfc h).2.1
theorem find_mem {l : List Nat} {p : Nat → Bool} {d : Nat} (h : ∀ x ∈ l, x ≤ d) : (l.find? p).getD d ≤ d := by
  cases hf : l.find? p with
  | none => exact Nat.le_refl _
  | some x => exact h x (List.mem_of_find?_eq_some hf)
theorem lwN_le (m : Nat) : lwN m ≤ 12 := find_mem (fun x hx => by have := List.mem_range.mp hx; omega)
theorem hiG_le (m : Nat) : ∀ k, k ≤ 12 → hiG k m ≤ 12
  | 0, _ => Nat.le_refl _
  | k + 1, h => by
    rw [hiG]; split
    · omega
    · exact hiG_le m k (by omega)
theorem hiN_le (m : Nat) : hiN m ≤ 12 := hiG_le m 12 (Nat.le_refl _)
theorem chN_le (k m : Nat) {r : Nat} (hr : r < 12) : chN k r m ≤ 12 := by
  unfold chN
  have := lwN_le m
  have := hiN_le m
  split
  · omega
  · split <;> repeat' (first | omega | split)
theorem rtn_lt (A : Nat → Nat) (n : Nat) : rtn A n < 12 := Nat.mod_lt _ (by decide)
theorem sv_le (A : Nat → Nat) (n w i : Nat) : sv A n w i ≤ 12 := chN_le _ _ (rtn_lt A n)
theorem sng_le (A : Nat → Nat) (n w i : Nat) : sng A n w i ≤ 12 := by
  unfold sng; split
  · exact sv_le A n w i
  · omega
theorem sgA_le (A : Nat → Nat) (i : Nat) : sgA A i ≤ 12 := by
  unfold sgA; split
  · exact sng_le _ _ _ _
  · omega
