/-! the law's loop -/
theorem l_tb {pc L : Nat} {i : Int32} {st : List Value} {xs : Nat → Int32} {σ μ : kS} {x : Int32} {dflt lo hi : Int} {offs : Array Int} {len : Nat} (td : Nat) (d : decode code pc = .ok (.tableswitch dflt lo hi offs, len)) (hsz : (offs.size : Int) = hi - lo + 1) (hpos : (offs.toList.all fun o => decide (0 ≤ (pc : Int) + o)) = true) (ht : (pc : Int) + dflt = (td : Int))
    (ki : k_tb pc x (fun t => LEx t i st L xs σ μ) lo offs.toList) (ko : LEx td i st L xs σ μ) : LEx pc i (.int x :: st) L xs σ μ := by
  intro p l e s m below meth c b D cA aX aM H locs ls C0 E hP hP1 hS hl
  by_cases h : x.toInt < lo ∨ hi < x.toInt
  · exact lv_tableOut C0.1 C0.2.1 d h ht (ko p l e s m below meth c b D cA aX aM H locs ls C0 E hP hP1 hS hl)
  · have hb : (x.toInt - lo).toNat < offs.size := by omega
    have ho : offs[(x.toInt - lo).toNat]? = some offs[(x.toInt - lo).toNat] := Array.getElem?_eq_getElem hb
    have hm : offs[(x.toInt - lo).toNat] ∈ offs.toList := by simp
    have hp := of_decide_eq_true (List.all_eq_true.mp hpos _ hm)
    refine lv_tableIn C0.1 C0.2.1 d (fun q => h (Or.inl q)) (fun q => h (Or.inr q)) ho (tgt := ((pc : Int) + offs[(x.toInt - lo).toNat]).toNat) (by omega) ?_
    exact k_tb_at offs.toList lo (x.toInt - lo).toNat _ ki (by rw [Array.getElem?_toList]; exact ho) (by omega) p l e s m below meth c b D cA aX aM H locs ls C0 E hP hP1 hS hl
theorem l_next {j L : Nat} {xs : Nat → Int32} {σ μ : kS} (k : LEx 18 (nI (j + 6)) [] L xs σ μ) : LEx 1132 (nI j) [] L xs σ μ := by
  intro p l e s m below meth c b D cA aX aM H locs ls C0 E hP hP1 hS hl
  refine lv_iinc (v := nI (j + 6)) (lv' := [(3, .int (nI (j + 6))), (0, .ref b), (1, .ref (aX 0)), (2, .ref (aM 0))]) C0.1 C0.2.1 (show decode code 1132 = .ok (.iinc 3 6, 3) by decide +kernel) hl (k := 3) rfl (by rw [← nI_add]; rfl) (by decide) rfl (fun ls hl => ?_)
  refine lv_goto (tgt := 18) C0.1 C0.2.1 (show decode code 1135 = .ok (.goto (-1117), 3) by decide +kernel) (by decide) ?_
  exact k p l e s m below meth c b D cA aX aM H locs ls C0 E hP hP1 hS (lv_sub hl [1, 2, 3, 0] rfl)
theorem l_in {j L : Nat} (hL : L ≤ 3072) (h : ¬ nI L - 6 < nI j) (hj : j ≤ L) : j + 6 ≤ L := by
  rcases Nat.lt_or_ge L 6 with q | q
  · refine absurd ?_ h
    have h1 : nI L - 6 < 0 := by
      rcases (show L = 0 ∨ L = 1 ∨ L = 2 ∨ L = 3 ∨ L = 4 ∨ L = 5 by omega) with rfl | rfl | rfl | rfl | rfl | rfl <;> decide
    have h2 : (0 : Int32) ≤ nI j := nI_pos' (by omega)
    rw [Int32.lt_iff_toInt_lt] at h1 ⊢
    rw [Int32.le_iff_toInt_le] at h2
    omega
  · have e : nI L - 6 = nI (L - 6) := by
      have h3 : nI L = nI (L - 6) + nI 6 := by rw [nI_add, Nat.sub_add_cancel q]
      rw [h3]
      show nI (L - 6) + 6 - 6 = _
      exact Int32.add_sub_cancel _ _
    rw [e] at h
    rcases Nat.lt_or_ge (L - 6) j with z | z
    · exact absurd (nI_lt z (by omega)) h
    · omega
theorem l_end {i : Int32} {L : Nat} {xs : Nat → Int32} {σ μ : kS} : LEx 1138 i [] L xs σ μ := by
  intro p l e s m below meth c b D cA aX aM H locs ls C0 E hP hP1 hS hl
  refine lv_iconst (v := 1) C0.1 C0.2.1 (show decode code 1138 = .ok (.iconst 1, 1) by decide +kernel) rfl ?_
  refine va_forget (fun q hq => hS.2.2 q hq) ?_
  refine W.widen (k := 600000) (n := 7302250) (by decide) (by decide) ?_
  exact lw_ret C0.1 C0.2.1 C0.2.2.1 C0.2.2.2.2.2.2.2.2.1 (show decode code 1139 = .ok (.ireturn, 1) by decide +kernel)
theorem l_head {j L : Nat} {xs : Nat → Int32} {σ μ : kS} (hL : L ≤ 3072) (hj : j ≤ L) (k1 : LEx 1138 (nI j) [] L xs σ μ) (k2 : j + 6 ≤ L → LEx 33 (nI j) [.int (xs j &&& 31)] L xs σ μ) : LEx 18 (nI j) [] L xs σ μ := by
  intro p l e s m below meth c b D cA aX aM H locs ls C0 E hP hP1 hS hl
  have hbA : ¬ l_A s b := Nat.not_le.mpr C0.2.2.2.2.2.2.2.1
  refine lv_iload_n C0.1 C0.2.1 (show decode code 18 = .ok (.iload_n 3, 1) by decide +kernel) rfl (lv_at hl 3 rfl) ?_
  refine lv_aload_n C0.1 C0.2.1 (show decode code 19 = .ok (.aload_n 0, 1) by decide +kernel) rfl (lv_at hl 0 rfl) ?_
  refine va_slen C0.1 C0.2.1 C0.2.2.2.2.2.2.1 C0.2.2.2.2.2.2.2.1 hbA hS (show decode code 20 = .ok (.arraylength, 1) by decide +kernel) ?_
  refine lv_bipush (v := 6) C0.1 C0.2.1 (show decode code 21 = .ok (.bipush 6, 2) by decide +kernel) rfl ?_
  refine lv_isub C0.1 C0.2.1 (show decode code 23 = .ok (.isub, 1) by decide +kernel) ?_
  refine lv_icmp_gt (tgt := 1138) C0.1 C0.2.1 (show decode code 24 = .ok (.if_icmp .gt 1114, 3) by decide +kernel) (by decide) (fun _ => k1 p l e s m below meth c b D cA aX aM H locs ls C0 E hP hP1 hS hl) (fun c9 => ?_)
  have h6 := l_in hL c9 hj
  refine lv_aload_n C0.1 C0.2.1 (show decode code 27 = .ok (.aload_n 0, 1) by decide +kernel) rfl (lv_at hl 0 rfl) ?_
  refine lv_iload_n C0.1 C0.2.1 (show decode code 28 = .ok (.iload_n 3, 1) by decide +kernel) rfl (lv_at hl 3 rfl) ?_
  refine va_sld C0.1 C0.2.1 C0.2.2.2.2.2.2.1 C0.2.2.2.2.2.2.2.1 hbA hS (vp_in_nI (show j < L by omega) (by omega)) (show decode code 29 = .ok (.iaload, 1) by decide +kernel) ?_
  rw [nI_clamp (by omega)]
  refine lv_bipush (v := 31) C0.1 C0.2.1 (show decode code 30 = .ok (.bipush 31, 2) by decide +kernel) rfl ?_
  refine lv_iand C0.1 C0.2.1 (show decode code 32 = .ok (.iand, 1) by decide +kernel) ?_
  exact k2 h6 p l e s m below meth c b D cA aX aM H locs ls C0 E hP hP1 hS hl
theorem law_loop {L : Nat} {xs : Nat → Int32} (hL : L ≤ 3072) : ∀ (n j : Nat) (σ μ : kS), j ≤ L → L + 1 ≤ j + n → Inv σ μ → LEx 18 (nI j) [] L xs σ μ := by
  intro n
  induction n with
  | zero => intro j σ μ h1 h2; exact absurd h2 (by omega)
  | succ n ih =>
    intro j σ μ hj hn hI
    refine l_head hL hj l_end (fun h6 => ?_)
    have K : ∀ τ ν, Inv τ ν → LEx 1132 (nI j) [] L xs τ ν := fun τ ν h => l_next (ih (j + 6) τ ν h6 (by omega) h)
    exact l_tb (pc := 33) 1132 (show decode code 33 = .ok (.tableswitch 1099 0 28 #[131, 154, 167, 190, 223, 256, 289, 322, 335, 368, 401, 414, 437, 460, 483, 516, 539, 562, 585, 608, 651, 694, 737, 760, 844, 907, 950, 1013, 1076], 131) by decide +kernel) (by decide +kernel) (by decide +kernel) (by decide)
      (k_tb_cons (fun _ => lc_feed hL h6 hI K) (k_tb_cons (fun _ => lc_valley hL h6 hI K) (k_tb_cons (fun _ => lc_shape hL h6 hI K) (k_tb_cons (fun _ => lc_field hL h6 hI K) (k_tb_cons (fun _ => lc_singer hL h6 hI K) (k_tb_cons (fun _ => lc_as hL h6 hI K) (k_tb_cons (fun _ => lc_chord hL h6 hI K) (k_tb_cons (fun _ => lc_hour hL h6 hI K) (k_tb_cons (fun _ => lc_send hL h6 hI K) (k_tb_cons (fun _ => lc_sound hL h6 hI K) (k_tb_cons (fun _ => lc_undo hL h6 hI K) (k_tb_cons (fun _ => lc_image hL h6 hI K) (k_tb_cons (fun _ => lc_restore hL h6 hI K) (k_tb_cons (fun _ => lc_sings hL h6 hI K) (k_tb_cons (fun _ => lc_ahead hL h6 hI K) (k_tb_cons (fun _ => lc_fills hL h6 hI K) (k_tb_cons (fun _ => lc_stands hL h6 hI K) (k_tb_cons (fun _ => lc_howls hL h6 hI K) (k_tb_cons (fun _ => lc_back hL h6 hI K) (k_tb_cons (fun _ => lc_wind hL h6 hI K) (k_tb_cons (fun _ => lc_decades hL h6 hI K) (k_tb_cons (fun _ => lc_sheet hL h6 hI K) (k_tb_cons (fun _ => lc_drop hL h6 hI K) (k_tb_cons (fun _ => lc_item hL h6 hI K) (k_tb_cons (fun _ => lc_copy hL h6 hI K) (k_tb_cons (fun _ => lc_log hL h6 hI K) (k_tb_cons (fun _ => lc_sounded hL h6 hI K) (k_tb_cons (fun _ => lc_kinds hL h6 hI K) (k_tb_cons (fun _ => lc_count hL h6 hI K) k_tb_nil))))))))))))))))))))))))))))) (K σ μ hI)
