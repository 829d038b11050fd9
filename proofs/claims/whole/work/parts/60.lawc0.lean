/-! the cases of the law (wip/gen/lawc.py) -/
theorem lk_109 : Cond.constantLong R_law 109 4294967295 ∈ lw_tbl := by decide +kernel
theorem ll_13 : Cond.methodLink R_law 13 yX8_feed ∈ k_ws := by decide +kernel
theorem ll_17 : Cond.methodLink R_law 17 yX9_feed ∈ k_ws := by decide +kernel
theorem lc_feed {j L : Nat} {xs : Nat → Int32} {σ μ : kS} (hL : L ≤ 3072) (hj : j + 6 ≤ L) (hI : Inv σ μ) (K : ∀ τ ν, Inv τ ν → LEx 1132 (nI j) [] L xs τ ν) : LEx 164 (nI j) [] L xs σ μ := by
  obtain ⟨x, τ, ν, h1, h2, hI2⟩ := q_feed (a := xs (j + 1)) hI
  refine l_aload1 (pc := 164) (show decode code 164 = .ok (.aload_n 1, 1) by decide +kernel) ?_
  refine l_arg (pc := 165) (z := 1) j 1 (by decide +kernel) rfl (by omega) hL ?_
  refine l_callX (pc := 170) (h := jX8_feed) [.int (xs (j + 1))] [] (show decode code 170 = .ok (.invokevirtual 13, 3) by decide +kernel) ⟨hX8_feed, vX8_feed, ⟨by decide, by decide⟩, ll_13⟩ rfl rfl rfl rfl (Nat.le_of_ble_eq_true rfl) rfl h1 ?_
  refine l_aload2 (pc := 173) (show decode code 173 = .ok (.aload_n 2, 1) by decide +kernel) ?_
  refine l_arg (pc := 174) (z := 1) j 1 (by decide +kernel) rfl (by omega) hL ?_
  refine l_callM (pc := 179) (h := jX9_feed) [.int (xs (j + 1))] [.int x] (show decode code 179 = .ok (.invokevirtual 17, 3) by decide +kernel) ⟨hX9_feed, vX9_feed, ⟨by decide, by decide⟩, ll_17⟩ rfl rfl rfl rfl (Nat.le_of_ble_eq_true rfl) rfl h2 ?_
  exact l_same (pc := 182) 1132 (show decode code 182 = .ok (.if_icmp .eq 950, 3) by decide +kernel) (by decide) (K τ ν hI2)
theorem ll_18 : Cond.methodLink R_law 18 yX8_valley ∈ k_ws := by decide +kernel
theorem ll_22 : Cond.methodLink R_law 22 yX9_valley ∈ k_ws := by decide +kernel
theorem lc_valley {j L : Nat} {xs : Nat → Int32} {σ μ : kS} (hL : L ≤ 3072) (hj : j + 6 ≤ L) (hI : Inv σ μ) (K : ∀ τ ν, Inv τ ν → LEx 1132 (nI j) [] L xs τ ν) : LEx 187 (nI j) [] L xs σ μ := by
  obtain ⟨x, τ, ν, h1, h2, hI2⟩ := q_valley  hI
  refine l_aload1 (pc := 187) (show decode code 187 = .ok (.aload_n 1, 1) by decide +kernel) ?_
  refine l_callX (pc := 188) (h := jX8_valley) [] [] (show decode code 188 = .ok (.invokevirtual 18, 3) by decide +kernel) ⟨hX8_valley, vX8_valley, ⟨by decide, by decide⟩, ll_18⟩ rfl rfl rfl rfl (Nat.le_of_ble_eq_true rfl) rfl h1 ?_
  refine l_aload2 (pc := 191) (show decode code 191 = .ok (.aload_n 2, 1) by decide +kernel) ?_
  refine l_callM (pc := 192) (h := jX9_valley) [] [.int x] (show decode code 192 = .ok (.invokevirtual 22, 3) by decide +kernel) ⟨hX9_valley, vX9_valley, ⟨by decide, by decide⟩, ll_22⟩ rfl rfl rfl rfl (Nat.le_of_ble_eq_true rfl) rfl h2 ?_
  exact l_same (pc := 195) 1132 (show decode code 195 = .ok (.if_icmp .eq 937, 3) by decide +kernel) (by decide) (K τ ν hI2)
theorem ll_23 : Cond.methodLink R_law 23 yX8_shape ∈ k_ws := by decide +kernel
theorem ll_26 : Cond.methodLink R_law 26 yX9_shape ∈ k_ws := by decide +kernel
theorem lc_shape {j L : Nat} {xs : Nat → Int32} {σ μ : kS} (hL : L ≤ 3072) (hj : j + 6 ≤ L) (hI : Inv σ μ) (K : ∀ τ ν, Inv τ ν → LEx 1132 (nI j) [] L xs τ ν) : LEx 200 (nI j) [] L xs σ μ := by
  obtain ⟨x, τ, ν, h1, h2, hI2⟩ := q_shape (a := xs (j + 1)) hI
  refine l_aload1 (pc := 200) (show decode code 200 = .ok (.aload_n 1, 1) by decide +kernel) ?_
  refine l_arg (pc := 201) (z := 1) j 1 (by decide +kernel) rfl (by omega) hL ?_
  refine l_callX (pc := 206) (h := jX8_shape) [.int (xs (j + 1))] [] (show decode code 206 = .ok (.invokevirtual 23, 3) by decide +kernel) ⟨hX8_shape, vX8_shape, ⟨by decide, by decide⟩, ll_23⟩ rfl rfl rfl rfl (Nat.le_of_ble_eq_true rfl) rfl h1 ?_
  refine l_aload2 (pc := 209) (show decode code 209 = .ok (.aload_n 2, 1) by decide +kernel) ?_
  refine l_arg (pc := 210) (z := 1) j 1 (by decide +kernel) rfl (by omega) hL ?_
  refine l_callM (pc := 215) (h := jX9_shape) [.int (xs (j + 1))] [.int x] (show decode code 215 = .ok (.invokevirtual 26, 3) by decide +kernel) ⟨hX9_shape, vX9_shape, ⟨by decide, by decide⟩, ll_26⟩ rfl rfl rfl rfl (Nat.le_of_ble_eq_true rfl) rfl h2 ?_
  exact l_same (pc := 218) 1132 (show decode code 218 = .ok (.if_icmp .eq 914, 3) by decide +kernel) (by decide) (K τ ν hI2)
theorem ll_27 : Cond.methodLink R_law 27 yX8_field ∈ k_ws := by decide +kernel
theorem ll_31 : Cond.methodLink R_law 31 yX9_field ∈ k_ws := by decide +kernel
theorem lc_field {j L : Nat} {xs : Nat → Int32} {σ μ : kS} (hL : L ≤ 3072) (hj : j + 6 ≤ L) (hI : Inv σ μ) (K : ∀ τ ν, Inv τ ν → LEx 1132 (nI j) [] L xs τ ν) : LEx 223 (nI j) [] L xs σ μ := by
  obtain ⟨x, τ, ν, h1, h2, hI2⟩ := q_field (a := xs (j + 1)) (b := xs (j + 2)) hI
  refine l_aload1 (pc := 223) (show decode code 223 = .ok (.aload_n 1, 1) by decide +kernel) ?_
  refine l_arg (pc := 224) (z := 1) j 1 (by decide +kernel) rfl (by omega) hL ?_
  refine l_arg (pc := 229) (z := 2) j 2 (by decide +kernel) rfl (by omega) hL ?_
  refine l_callX (pc := 234) (h := jX8_field) [.int (xs (j + 1)), .int (xs (j + 2))] [] (show decode code 234 = .ok (.invokevirtual 27, 3) by decide +kernel) ⟨hX8_field, vX8_field, ⟨by decide, by decide⟩, ll_27⟩ rfl rfl rfl rfl (Nat.le_of_ble_eq_true rfl) rfl h1 ?_
  refine l_aload2 (pc := 237) (show decode code 237 = .ok (.aload_n 2, 1) by decide +kernel) ?_
  refine l_arg (pc := 238) (z := 1) j 1 (by decide +kernel) rfl (by omega) hL ?_
  refine l_arg (pc := 243) (z := 2) j 2 (by decide +kernel) rfl (by omega) hL ?_
  refine l_callM (pc := 248) (h := jX9_field) [.int (xs (j + 1)), .int (xs (j + 2))] [.int x] (show decode code 248 = .ok (.invokevirtual 31, 3) by decide +kernel) ⟨hX9_field, vX9_field, ⟨by decide, by decide⟩, ll_31⟩ rfl rfl rfl rfl (Nat.le_of_ble_eq_true rfl) rfl h2 ?_
  exact l_same (pc := 251) 1132 (show decode code 251 = .ok (.if_icmp .eq 881, 3) by decide +kernel) (by decide) (K τ ν hI2)
theorem ll_32 : Cond.methodLink R_law 32 yX8_singer ∈ k_ws := by decide +kernel
theorem ll_35 : Cond.methodLink R_law 35 yX9_singer ∈ k_ws := by decide +kernel
theorem lc_singer {j L : Nat} {xs : Nat → Int32} {σ μ : kS} (hL : L ≤ 3072) (hj : j + 6 ≤ L) (hI : Inv σ μ) (K : ∀ τ ν, Inv τ ν → LEx 1132 (nI j) [] L xs τ ν) : LEx 256 (nI j) [] L xs σ μ := by
  obtain ⟨x, τ, ν, h1, h2, hI2⟩ := q_singer (a := xs (j + 1)) (b := xs (j + 2)) hI
  refine l_aload1 (pc := 256) (show decode code 256 = .ok (.aload_n 1, 1) by decide +kernel) ?_
  refine l_arg (pc := 257) (z := 1) j 1 (by decide +kernel) rfl (by omega) hL ?_
  refine l_arg (pc := 262) (z := 2) j 2 (by decide +kernel) rfl (by omega) hL ?_
  refine l_callX (pc := 267) (h := jX8_singer) [.int (xs (j + 1)), .int (xs (j + 2))] [] (show decode code 267 = .ok (.invokevirtual 32, 3) by decide +kernel) ⟨hX8_singer, vX8_singer, ⟨by decide, by decide⟩, ll_32⟩ rfl rfl rfl rfl (Nat.le_of_ble_eq_true rfl) rfl h1 ?_
  refine l_aload2 (pc := 270) (show decode code 270 = .ok (.aload_n 2, 1) by decide +kernel) ?_
  refine l_arg (pc := 271) (z := 1) j 1 (by decide +kernel) rfl (by omega) hL ?_
  refine l_arg (pc := 276) (z := 2) j 2 (by decide +kernel) rfl (by omega) hL ?_
  refine l_callM (pc := 281) (h := jX9_singer) [.int (xs (j + 1)), .int (xs (j + 2))] [.int x] (show decode code 281 = .ok (.invokevirtual 35, 3) by decide +kernel) ⟨hX9_singer, vX9_singer, ⟨by decide, by decide⟩, ll_35⟩ rfl rfl rfl rfl (Nat.le_of_ble_eq_true rfl) rfl h2 ?_
  exact l_same (pc := 284) 1132 (show decode code 284 = .ok (.if_icmp .eq 848, 3) by decide +kernel) (by decide) (K τ ν hI2)
theorem ll_36 : Cond.methodLink R_law 36 yX8_as ∈ k_ws := by decide +kernel
theorem ll_39 : Cond.methodLink R_law 39 yX9_as ∈ k_ws := by decide +kernel
theorem lc_as {j L : Nat} {xs : Nat → Int32} {σ μ : kS} (hL : L ≤ 3072) (hj : j + 6 ≤ L) (hI : Inv σ μ) (K : ∀ τ ν, Inv τ ν → LEx 1132 (nI j) [] L xs τ ν) : LEx 289 (nI j) [] L xs σ μ := by
  obtain ⟨x, τ, ν, h1, h2, hI2⟩ := q_as (a := xs (j + 1)) (b := xs (j + 2)) hI
  refine l_aload1 (pc := 289) (show decode code 289 = .ok (.aload_n 1, 1) by decide +kernel) ?_
  refine l_arg (pc := 290) (z := 1) j 1 (by decide +kernel) rfl (by omega) hL ?_
  refine l_arg (pc := 295) (z := 2) j 2 (by decide +kernel) rfl (by omega) hL ?_
  refine l_callX (pc := 300) (h := jX8_as) [.int (xs (j + 1)), .int (xs (j + 2))] [] (show decode code 300 = .ok (.invokevirtual 36, 3) by decide +kernel) ⟨hX8_as, vX8_as, ⟨by decide, by decide⟩, ll_36⟩ rfl rfl rfl rfl (Nat.le_of_ble_eq_true rfl) rfl h1 ?_
  refine l_aload2 (pc := 303) (show decode code 303 = .ok (.aload_n 2, 1) by decide +kernel) ?_
  refine l_arg (pc := 304) (z := 1) j 1 (by decide +kernel) rfl (by omega) hL ?_
  refine l_arg (pc := 309) (z := 2) j 2 (by decide +kernel) rfl (by omega) hL ?_
  refine l_callM (pc := 314) (h := jX9_as) [.int (xs (j + 1)), .int (xs (j + 2))] [.int x] (show decode code 314 = .ok (.invokevirtual 39, 3) by decide +kernel) ⟨hX9_as, vX9_as, ⟨by decide, by decide⟩, ll_39⟩ rfl rfl rfl rfl (Nat.le_of_ble_eq_true rfl) rfl h2 ?_
  exact l_same (pc := 317) 1132 (show decode code 317 = .ok (.if_icmp .eq 815, 3) by decide +kernel) (by decide) (K τ ν hI2)
theorem ll_40 : Cond.methodLink R_law 40 yX8_chord ∈ k_ws := by decide +kernel
theorem ll_43 : Cond.methodLink R_law 43 yX9_chord ∈ k_ws := by decide +kernel
theorem lc_chord {j L : Nat} {xs : Nat → Int32} {σ μ : kS} (hL : L ≤ 3072) (hj : j + 6 ≤ L) (hI : Inv σ μ) (K : ∀ τ ν, Inv τ ν → LEx 1132 (nI j) [] L xs τ ν) : LEx 322 (nI j) [] L xs σ μ := by
  obtain ⟨x, τ, ν, h1, h2, hI2⟩ := q_chord (a := xs (j + 1)) (b := xs (j + 2)) hI
  refine l_aload1 (pc := 322) (show decode code 322 = .ok (.aload_n 1, 1) by decide +kernel) ?_
  refine l_arg (pc := 323) (z := 1) j 1 (by decide +kernel) rfl (by omega) hL ?_
  refine l_arg (pc := 328) (z := 2) j 2 (by decide +kernel) rfl (by omega) hL ?_
  refine l_callX (pc := 333) (h := jX8_chord) [.int (xs (j + 1)), .int (xs (j + 2))] [] (show decode code 333 = .ok (.invokevirtual 40, 3) by decide +kernel) ⟨hX8_chord, vX8_chord, ⟨by decide, by decide⟩, ll_40⟩ rfl rfl rfl rfl (Nat.le_of_ble_eq_true rfl) rfl h1 ?_
  refine l_aload2 (pc := 336) (show decode code 336 = .ok (.aload_n 2, 1) by decide +kernel) ?_
  refine l_arg (pc := 337) (z := 1) j 1 (by decide +kernel) rfl (by omega) hL ?_
  refine l_arg (pc := 342) (z := 2) j 2 (by decide +kernel) rfl (by omega) hL ?_
  refine l_callM (pc := 347) (h := jX9_chord) [.int (xs (j + 1)), .int (xs (j + 2))] [.int x] (show decode code 347 = .ok (.invokevirtual 43, 3) by decide +kernel) ⟨hX9_chord, vX9_chord, ⟨by decide, by decide⟩, ll_43⟩ rfl rfl rfl rfl (Nat.le_of_ble_eq_true rfl) rfl h2 ?_
  exact l_same (pc := 350) 1132 (show decode code 350 = .ok (.if_icmp .eq 782, 3) by decide +kernel) (by decide) (K τ ν hI2)
theorem ll_44 : Cond.methodLink R_law 44 yX8_hour ∈ k_ws := by decide +kernel
theorem ll_47 : Cond.methodLink R_law 47 yX9_hour ∈ k_ws := by decide +kernel
theorem lc_hour {j L : Nat} {xs : Nat → Int32} {σ μ : kS} (hL : L ≤ 3072) (hj : j + 6 ≤ L) (hI : Inv σ μ) (K : ∀ τ ν, Inv τ ν → LEx 1132 (nI j) [] L xs τ ν) : LEx 355 (nI j) [] L xs σ μ := by
  obtain ⟨x, τ, ν, h1, h2, hI2⟩ := q_hour  hI
  refine l_aload1 (pc := 355) (show decode code 355 = .ok (.aload_n 1, 1) by decide +kernel) ?_
  refine l_callX (pc := 356) (h := jX8_hour) [] [] (show decode code 356 = .ok (.invokevirtual 44, 3) by decide +kernel) ⟨hX8_hour, vX8_hour, ⟨by decide, by decide⟩, ll_44⟩ rfl rfl rfl rfl (Nat.le_of_ble_eq_true rfl) rfl h1 ?_
  refine l_aload2 (pc := 359) (show decode code 359 = .ok (.aload_n 2, 1) by decide +kernel) ?_
  refine l_callM (pc := 360) (h := jX9_hour) [] [.int x] (show decode code 360 = .ok (.invokevirtual 47, 3) by decide +kernel) ⟨hX9_hour, vX9_hour, ⟨by decide, by decide⟩, ll_47⟩ rfl rfl rfl rfl (Nat.le_of_ble_eq_true rfl) rfl h2 ?_
  exact l_same (pc := 363) 1132 (show decode code 363 = .ok (.if_icmp .eq 769, 3) by decide +kernel) (by decide) (K τ ν hI2)
theorem ll_48 : Cond.methodLink R_law 48 yX8_send ∈ k_ws := by decide +kernel
theorem ll_51 : Cond.methodLink R_law 51 yX9_send ∈ k_ws := by decide +kernel
theorem lc_send {j L : Nat} {xs : Nat → Int32} {σ μ : kS} (hL : L ≤ 3072) (hj : j + 6 ≤ L) (hI : Inv σ μ) (K : ∀ τ ν, Inv τ ν → LEx 1132 (nI j) [] L xs τ ν) : LEx 368 (nI j) [] L xs σ μ := by
  obtain ⟨x, τ, ν, h1, h2, hI2⟩ := q_send (a := xs (j + 1)) (b := xs (j + 2)) hI
  refine l_aload1 (pc := 368) (show decode code 368 = .ok (.aload_n 1, 1) by decide +kernel) ?_
  refine l_arg (pc := 369) (z := 1) j 1 (by decide +kernel) rfl (by omega) hL ?_
  refine l_arg (pc := 374) (z := 2) j 2 (by decide +kernel) rfl (by omega) hL ?_
  refine l_callX (pc := 379) (h := jX8_send) [.int (xs (j + 1)), .int (xs (j + 2))] [] (show decode code 379 = .ok (.invokevirtual 48, 3) by decide +kernel) ⟨hX8_send, vX8_send, ⟨by decide, by decide⟩, ll_48⟩ rfl rfl rfl rfl (Nat.le_of_ble_eq_true rfl) rfl h1 ?_
  refine l_aload2 (pc := 382) (show decode code 382 = .ok (.aload_n 2, 1) by decide +kernel) ?_
  refine l_arg (pc := 383) (z := 1) j 1 (by decide +kernel) rfl (by omega) hL ?_
  refine l_arg (pc := 388) (z := 2) j 2 (by decide +kernel) rfl (by omega) hL ?_
  refine l_callM (pc := 393) (h := jX9_send) [.int (xs (j + 1)), .int (xs (j + 2))] [.int x] (show decode code 393 = .ok (.invokevirtual 51, 3) by decide +kernel) ⟨hX9_send, vX9_send, ⟨by decide, by decide⟩, ll_51⟩ rfl rfl rfl rfl (Nat.le_of_ble_eq_true rfl) rfl h2 ?_
  exact l_same (pc := 396) 1132 (show decode code 396 = .ok (.if_icmp .eq 736, 3) by decide +kernel) (by decide) (K τ ν hI2)
theorem ll_52 : Cond.methodLink R_law 52 yX8_sound ∈ k_ws := by decide +kernel
theorem ll_55 : Cond.methodLink R_law 55 yX9_sound ∈ k_ws := by decide +kernel
theorem lc_sound {j L : Nat} {xs : Nat → Int32} {σ μ : kS} (hL : L ≤ 3072) (hj : j + 6 ≤ L) (hI : Inv σ μ) (K : ∀ τ ν, Inv τ ν → LEx 1132 (nI j) [] L xs τ ν) : LEx 401 (nI j) [] L xs σ μ := by
  obtain ⟨x, τ, ν, h1, h2, hI2⟩ := q_sound (a := xs (j + 1)) (b := xs (j + 2)) hI
  refine l_aload1 (pc := 401) (show decode code 401 = .ok (.aload_n 1, 1) by decide +kernel) ?_
  refine l_arg (pc := 402) (z := 1) j 1 (by decide +kernel) rfl (by omega) hL ?_
  refine l_arg (pc := 407) (z := 2) j 2 (by decide +kernel) rfl (by omega) hL ?_
  refine l_callX (pc := 412) (h := jX8_sound) [.int (xs (j + 1)), .int (xs (j + 2))] [] (show decode code 412 = .ok (.invokevirtual 52, 3) by decide +kernel) ⟨hX8_sound, vX8_sound, ⟨by decide, by decide⟩, ll_52⟩ rfl rfl rfl rfl (Nat.le_of_ble_eq_true rfl) rfl h1 ?_
  refine l_aload2 (pc := 415) (show decode code 415 = .ok (.aload_n 2, 1) by decide +kernel) ?_
  refine l_arg (pc := 416) (z := 1) j 1 (by decide +kernel) rfl (by omega) hL ?_
  refine l_arg (pc := 421) (z := 2) j 2 (by decide +kernel) rfl (by omega) hL ?_
  refine l_callM (pc := 426) (h := jX9_sound) [.int (xs (j + 1)), .int (xs (j + 2))] [.int x] (show decode code 426 = .ok (.invokevirtual 55, 3) by decide +kernel) ⟨hX9_sound, vX9_sound, ⟨by decide, by decide⟩, ll_55⟩ rfl rfl rfl rfl (Nat.le_of_ble_eq_true rfl) rfl h2 ?_
  exact l_same (pc := 429) 1132 (show decode code 429 = .ok (.if_icmp .eq 703, 3) by decide +kernel) (by decide) (K τ ν hI2)
