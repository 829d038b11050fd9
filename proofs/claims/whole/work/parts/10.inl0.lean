/-! the smallest methods, told by their values -/
abbrev wn (a b : Int32) : Prop := 0 ≤ a.toInt ∧ a.toInt < b.toInt
abbrev iv (a b c : Int32) : Prop := b.toInt ≤ a.toInt ∧ a.toInt ≤ c.toInt
abbrev hs (a k : Int32) : Prop := ((a >>> (k &&& 31)) &&& 1) = 1
abbrev ip (i n m : Int32) : Prop := 0 ≤ n.toInt ∧ 0 ≤ i.toInt ∧ n.toInt ≤ m.toInt ∧ i.toInt ≤ (m - n).toInt
def tP (p : Int32) : Int32 := if p = -1 then -4 else p
def mx (a b : Int32) : Int32 := if a < b then b else a
def mn (a b : Int32) : Int32 := if b < a then b else a
def cO (a r : Int32) : Int32 := ((a <<< (r &&& 31)) ||| ((a <<< (r &&& 31)) >>> (12 &&& 31))) &&& (4095 : Int32)
theorem lt_I {a b : Int32} : a < b ↔ a.toInt < b.toInt := Int32.lt_iff_toInt_lt
theorem le_I {a b : Int32} : a ≤ b ↔ a.toInt ≤ b.toInt := Int32.le_iff_toInt_le
theorem eq_I {a b : Int32} : a = b ↔ a.toInt = b.toInt := Int32.toInt_inj.symm
theorem i_0 : (0 : Int32).toInt = 0 := by decide
theorem i_X8_within {a b : Int32} {σ : kS} : Run SX jX8_within [.int a, .int b] σ (some (.int (bI (wn a b)))) σ := by
  refine t_X8_within ⟨fun c => ⟨bI_f ?_, rfl⟩, fun c => ⟨fun c2 => ⟨bI_f ?_, rfl⟩, fun c2 => ⟨bI_t ?_, rfl⟩⟩⟩
  all_goals (simp only [lt_I, le_I, i_0] at *; unfold wn; omega)
theorem i_X8_has {a b : Int32} {σ : kS} : Run SX jX8_has [.int a, .int b] σ (some (.int (bI (hs a b)))) σ :=
  t_X8_has ⟨fun c => ⟨bI_f c, rfl⟩, fun c => ⟨bI_t c, rfl⟩⟩
theorem i_X8_tellPlace {a : Int32} {σ : kS} : Run SX jX8_tellPlace [.int a] σ (some (.int (tP a))) σ :=
  t_X8_tellPlace ⟨fun c => ⟨if_neg c, rfl⟩, fun c => ⟨if_pos c, rfl⟩⟩
theorem i_X7_isThere {v : Nat} {σ : kS} (hv : k_vly v = true) : Run SX jX7_isThere [.ref v] σ (some (.int (bI (0 < σ.1 v 1 ∧ 0 < σ.1 v 2)))) σ := by
  refine t_X7_isThere hv ⟨fun c => ⟨bI_f ?_, rfl⟩, fun c => ⟨fun c2 => ⟨bI_f ?_, rfl⟩, fun c2 => ⟨bI_t ?_, rfl⟩⟩⟩
  all_goals (simp only [lt_I, le_I, i_0] at *; omega)
theorem i_X4_isThere {s : Nat} {σ : kS} (hs : k_sht s = true) : Run SX jX4_isThere [.ref s] σ (some (.int (bI (¬ σ.1 s 0 = -1)))) σ :=
  t_X4_isThere hs ⟨fun c => ⟨bI_f (fun q => q c), rfl⟩, fun c => ⟨bI_t c, rfl⟩⟩
theorem i_max {a b : Int32} {σ : kS} : Run SX jJ9_max_7cf53 [.int a, .int b] σ (some (.int (mx a b))) σ :=
  t_J9_max_7cf53 ⟨fun c => ⟨if_pos c, rfl⟩, fun c => ⟨if_neg c, rfl⟩⟩
theorem i_min {a b : Int32} {σ : kS} : Run SX jJ9_min_7cf53 [.int a, .int b] σ (some (.int (mn a b))) σ :=
  t_J9_min_7cf53 ⟨fun c => ⟨if_pos c, rfl⟩, fun c => ⟨if_neg c, rfl⟩⟩
theorem i_X1_above {a b : Int32} {σ : kS} : Run SX jX1_above [.int a, .int b] σ (some (.int ((a + b) - (a + b) / 12 * 12))) σ := t_X1_above ⟨rfl, rfl⟩
theorem i_X9_in {a b c : Int32} {σ : kS} : Run SM jX9_in [.int a, .int b, .int c] σ (some (.int (bI (iv a b c)))) σ := by
  refine t_X9_in ⟨fun c => ⟨bI_f ?_, rfl⟩, fun c => ⟨fun c2 => ⟨bI_f ?_, rfl⟩, fun c2 => ⟨bI_t ?_, rfl⟩⟩⟩
  all_goals (simp only [lt_I, le_I, i_0] at *; unfold iv; omega)
theorem i_X9_has {a b : Int32} {σ : kS} : Run SM jX9_has [.int a, .int b] σ (some (.int (bI (hs a b)))) σ :=
  t_X9_has ⟨fun c => ⟨bI_f c, rfl⟩, fun c => ⟨bI_t c, rfl⟩⟩
theorem i_X9_isThere {σ : kS} : Run SM jX9_isThere [.ref 0] σ (some (.int (bI (0 < σ.1 5 1)))) σ := by
  refine t_X9_isThere ⟨fun c => ⟨bI_f ?_, rfl⟩, fun c => ⟨bI_t ?_, rfl⟩⟩
  all_goals (simp only [lt_I, le_I, i_0] at *; omega)
theorem i_X9_isPart {i n m : Int32} {σ : kS} : Run SM jX9_isPart [.int i, .int n, .int m] σ (some (.int (bI (ip i n m)))) σ := by
  refine t_X9_isPart ⟨fun c => ⟨bI_f ?_, rfl⟩, fun c => ⟨fun c2 => ⟨bI_f ?_, rfl⟩, fun c2 => ⟨fun c3 => ⟨bI_f ?_, rfl⟩, fun c3 => ⟨fun c4 => ⟨bI_f ?_, rfl⟩, fun c4 => ⟨bI_t ?_, rfl⟩⟩⟩⟩⟩
  all_goals (simp only [lt_I, le_I, i_0] at *; unfold ip; omega)
theorem i_X9_chordOn {a r : Int32} {σ : kS} : Run SM jX9_chordOn [.int a, .int r] σ (some (.int (cO a r))) σ := t_X9_chordOn ⟨rfl, rfl⟩
