/-! the cases of the law, further -/
theorem ll_56 : Cond.methodLink R_law 56 yX8_undo ∈ k_ws := by decide +kernel
theorem ll_59 : Cond.methodLink R_law 59 yX9_undo ∈ k_ws := by decide +kernel
theorem lc_undo {j L : Nat} {xs : Nat → Int32} {σ μ : kS} (hL : L ≤ 3072) (hj : j + 6 ≤ L) (hI : Inv σ μ) (K : ∀ τ ν, Inv τ ν → LEx 1132 (nI j) [] L xs τ ν) : LEx 434 (nI j) [] L xs σ μ := by
  obtain ⟨x, τ, ν, h1, h2, hI2⟩ := q_undo  hI
  refine l_aload1 (pc := 434) (show decode code 434 = .ok (.aload_n 1, 1) by decide +kernel) ?_
  refine l_callX (pc := 435) (h := jX8_undo) [] [] (show decode code 435 = .ok (.invokevirtual 56, 3) by decide +kernel) ⟨hX8_undo, vX8_undo, ⟨by decide, by decide⟩, ll_56⟩ rfl rfl rfl rfl (Nat.le_of_ble_eq_true rfl) rfl h1 ?_
  refine l_aload2 (pc := 438) (show decode code 438 = .ok (.aload_n 2, 1) by decide +kernel) ?_
  refine l_callM (pc := 439) (h := jX9_undo) [] [.int x] (show decode code 439 = .ok (.invokevirtual 59, 3) by decide +kernel) ⟨hX9_undo, vX9_undo, ⟨by decide, by decide⟩, ll_59⟩ rfl rfl rfl rfl (Nat.le_of_ble_eq_true rfl) rfl h2 ?_
  exact l_same (pc := 442) 1132 (show decode code 442 = .ok (.if_icmp .eq 690, 3) by decide +kernel) (by decide) (K τ ν hI2)
theorem ll_60 : Cond.methodLink R_law 60 yX8_image ∈ k_ws := by decide +kernel
theorem ll_63 : Cond.methodLink R_law 63 yX9_image ∈ k_ws := by decide +kernel
theorem lc_image {j L : Nat} {xs : Nat → Int32} {σ μ : kS} (hL : L ≤ 3072) (hj : j + 6 ≤ L) (hI : Inv σ μ) (K : ∀ τ ν, Inv τ ν → LEx 1132 (nI j) [] L xs τ ν) : LEx 447 (nI j) [] L xs σ μ := by
  obtain ⟨x, τ, ν, h1, h2, hI2⟩ := q_image (a := xs (j + 1)) hI
  refine l_aload1 (pc := 447) (show decode code 447 = .ok (.aload_n 1, 1) by decide +kernel) ?_
  refine l_arg (pc := 448) (z := 1) j 1 (by decide +kernel) rfl (by omega) hL ?_
  refine l_callX (pc := 453) (h := jX8_image) [.int (xs (j + 1))] [] (show decode code 453 = .ok (.invokevirtual 60, 3) by decide +kernel) ⟨hX8_image, vX8_image, ⟨by decide, by decide⟩, ll_60⟩ rfl rfl rfl rfl (Nat.le_of_ble_eq_true rfl) rfl h1 ?_
  refine l_aload2 (pc := 456) (show decode code 456 = .ok (.aload_n 2, 1) by decide +kernel) ?_
  refine l_arg (pc := 457) (z := 1) j 1 (by decide +kernel) rfl (by omega) hL ?_
  refine l_callM (pc := 462) (h := jX9_image) [.int (xs (j + 1))] [.int x] (show decode code 462 = .ok (.invokevirtual 63, 3) by decide +kernel) ⟨hX9_image, vX9_image, ⟨by decide, by decide⟩, ll_63⟩ rfl rfl rfl rfl (Nat.le_of_ble_eq_true rfl) rfl h2 ?_
  exact l_same (pc := 465) 1132 (show decode code 465 = .ok (.if_icmp .eq 667, 3) by decide +kernel) (by decide) (K τ ν hI2)
theorem ll_64 : Cond.methodLink R_law 64 yX8_restore ∈ k_ws := by decide +kernel
theorem ll_67 : Cond.methodLink R_law 67 yX9_restore ∈ k_ws := by decide +kernel
theorem lc_restore {j L : Nat} {xs : Nat → Int32} {σ μ : kS} (hL : L ≤ 3072) (hj : j + 6 ≤ L) (hI : Inv σ μ) (K : ∀ τ ν, Inv τ ν → LEx 1132 (nI j) [] L xs τ ν) : LEx 470 (nI j) [] L xs σ μ := by
  obtain ⟨x, τ, ν, h1, h2, hI2⟩ := q_restore (a := xs (j + 1)) hI
  refine l_aload1 (pc := 470) (show decode code 470 = .ok (.aload_n 1, 1) by decide +kernel) ?_
  refine l_arg (pc := 471) (z := 1) j 1 (by decide +kernel) rfl (by omega) hL ?_
  refine l_callX (pc := 476) (h := jX8_restore) [.int (xs (j + 1))] [] (show decode code 476 = .ok (.invokevirtual 64, 3) by decide +kernel) ⟨hX8_restore, vX8_restore, ⟨by decide, by decide⟩, ll_64⟩ rfl rfl rfl rfl (Nat.le_of_ble_eq_true rfl) rfl h1 ?_
  refine l_aload2 (pc := 479) (show decode code 479 = .ok (.aload_n 2, 1) by decide +kernel) ?_
  refine l_arg (pc := 480) (z := 1) j 1 (by decide +kernel) rfl (by omega) hL ?_
  refine l_callM (pc := 485) (h := jX9_restore) [.int (xs (j + 1))] [.int x] (show decode code 485 = .ok (.invokevirtual 67, 3) by decide +kernel) ⟨hX9_restore, vX9_restore, ⟨by decide, by decide⟩, ll_67⟩ rfl rfl rfl rfl (Nat.le_of_ble_eq_true rfl) rfl h2 ?_
  exact l_same (pc := 488) 1132 (show decode code 488 = .ok (.if_icmp .eq 644, 3) by decide +kernel) (by decide) (K τ ν hI2)
theorem ll_68 : Cond.methodLink R_law 68 yX8_sings ∈ k_ws := by decide +kernel
theorem ll_71 : Cond.methodLink R_law 71 yX9_sings ∈ k_ws := by decide +kernel
theorem lc_sings {j L : Nat} {xs : Nat → Int32} {σ μ : kS} (hL : L ≤ 3072) (hj : j + 6 ≤ L) (hI : Inv σ μ) (K : ∀ τ ν, Inv τ ν → LEx 1132 (nI j) [] L xs τ ν) : LEx 493 (nI j) [] L xs σ μ := by
  obtain ⟨x, τ, ν, h1, h2, hI2⟩ := q_sings (a := xs (j + 1)) hI
  refine l_aload1 (pc := 493) (show decode code 493 = .ok (.aload_n 1, 1) by decide +kernel) ?_
  refine l_arg (pc := 494) (z := 1) j 1 (by decide +kernel) rfl (by omega) hL ?_
  refine l_callX (pc := 499) (h := jX8_sings) [.int (xs (j + 1))] [] (show decode code 499 = .ok (.invokevirtual 68, 3) by decide +kernel) ⟨hX8_sings, vX8_sings, ⟨by decide, by decide⟩, ll_68⟩ rfl rfl rfl rfl (Nat.le_of_ble_eq_true rfl) rfl h1 ?_
  refine l_aload2 (pc := 502) (show decode code 502 = .ok (.aload_n 2, 1) by decide +kernel) ?_
  refine l_arg (pc := 503) (z := 1) j 1 (by decide +kernel) rfl (by omega) hL ?_
  refine l_callM (pc := 508) (h := jX9_sings) [.int (xs (j + 1))] [.int x] (show decode code 508 = .ok (.invokevirtual 71, 3) by decide +kernel) ⟨hX9_sings, vX9_sings, ⟨by decide, by decide⟩, ll_71⟩ rfl rfl rfl rfl (Nat.le_of_ble_eq_true rfl) rfl h2 ?_
  exact l_same (pc := 511) 1132 (show decode code 511 = .ok (.if_icmp .eq 621, 3) by decide +kernel) (by decide) (K τ ν hI2)
theorem ll_72 : Cond.methodLink R_law 72 yX8_ahead ∈ k_ws := by decide +kernel
theorem ll_75 : Cond.methodLink R_law 75 yX9_ahead ∈ k_ws := by decide +kernel
theorem lc_ahead {j L : Nat} {xs : Nat → Int32} {σ μ : kS} (hL : L ≤ 3072) (hj : j + 6 ≤ L) (hI : Inv σ μ) (K : ∀ τ ν, Inv τ ν → LEx 1132 (nI j) [] L xs τ ν) : LEx 516 (nI j) [] L xs σ μ := by
  obtain ⟨x, τ, ν, h1, h2, hI2⟩ := q_ahead (a := xs (j + 1)) (b := xs (j + 2)) hI
  refine l_aload1 (pc := 516) (show decode code 516 = .ok (.aload_n 1, 1) by decide +kernel) ?_
  refine l_arg (pc := 517) (z := 1) j 1 (by decide +kernel) rfl (by omega) hL ?_
  refine l_arg (pc := 522) (z := 2) j 2 (by decide +kernel) rfl (by omega) hL ?_
  refine l_callX (pc := 527) (h := jX8_ahead) [.int (xs (j + 1)), .int (xs (j + 2))] [] (show decode code 527 = .ok (.invokevirtual 72, 3) by decide +kernel) ⟨hX8_ahead, vX8_ahead, ⟨by decide, by decide⟩, ll_72⟩ rfl rfl rfl rfl (Nat.le_of_ble_eq_true rfl) rfl h1 ?_
  refine l_aload2 (pc := 530) (show decode code 530 = .ok (.aload_n 2, 1) by decide +kernel) ?_
  refine l_arg (pc := 531) (z := 1) j 1 (by decide +kernel) rfl (by omega) hL ?_
  refine l_arg (pc := 536) (z := 2) j 2 (by decide +kernel) rfl (by omega) hL ?_
  refine l_callM (pc := 541) (h := jX9_ahead) [.int (xs (j + 1)), .int (xs (j + 2))] [.int x] (show decode code 541 = .ok (.invokevirtual 75, 3) by decide +kernel) ⟨hX9_ahead, vX9_ahead, ⟨by decide, by decide⟩, ll_75⟩ rfl rfl rfl rfl (Nat.le_of_ble_eq_true rfl) rfl h2 ?_
  exact l_same (pc := 544) 1132 (show decode code 544 = .ok (.if_icmp .eq 588, 3) by decide +kernel) (by decide) (K τ ν hI2)
theorem ll_76 : Cond.methodLink R_law 76 yX8_fills ∈ k_ws := by decide +kernel
theorem ll_79 : Cond.methodLink R_law 79 yX9_fills ∈ k_ws := by decide +kernel
theorem lc_fills {j L : Nat} {xs : Nat → Int32} {σ μ : kS} (hL : L ≤ 3072) (hj : j + 6 ≤ L) (hI : Inv σ μ) (K : ∀ τ ν, Inv τ ν → LEx 1132 (nI j) [] L xs τ ν) : LEx 549 (nI j) [] L xs σ μ := by
  obtain ⟨x, τ, ν, h1, h2, hI2⟩ := q_fills (a := xs (j + 1)) hI
  refine l_aload1 (pc := 549) (show decode code 549 = .ok (.aload_n 1, 1) by decide +kernel) ?_
  refine l_arg (pc := 550) (z := 1) j 1 (by decide +kernel) rfl (by omega) hL ?_
  refine l_callX (pc := 555) (h := jX8_fills) [.int (xs (j + 1))] [] (show decode code 555 = .ok (.invokevirtual 76, 3) by decide +kernel) ⟨hX8_fills, vX8_fills, ⟨by decide, by decide⟩, ll_76⟩ rfl rfl rfl rfl (Nat.le_of_ble_eq_true rfl) rfl h1 ?_
  refine l_aload2 (pc := 558) (show decode code 558 = .ok (.aload_n 2, 1) by decide +kernel) ?_
  refine l_arg (pc := 559) (z := 1) j 1 (by decide +kernel) rfl (by omega) hL ?_
  refine l_callM (pc := 564) (h := jX9_fills) [.int (xs (j + 1))] [.int x] (show decode code 564 = .ok (.invokevirtual 79, 3) by decide +kernel) ⟨hX9_fills, vX9_fills, ⟨by decide, by decide⟩, ll_79⟩ rfl rfl rfl rfl (Nat.le_of_ble_eq_true rfl) rfl h2 ?_
  exact l_same (pc := 567) 1132 (show decode code 567 = .ok (.if_icmp .eq 565, 3) by decide +kernel) (by decide) (K τ ν hI2)
theorem ll_80 : Cond.methodLink R_law 80 yX8_stands ∈ k_ws := by decide +kernel
theorem ll_83 : Cond.methodLink R_law 83 yX9_stands ∈ k_ws := by decide +kernel
theorem lc_stands {j L : Nat} {xs : Nat → Int32} {σ μ : kS} (hL : L ≤ 3072) (hj : j + 6 ≤ L) (hI : Inv σ μ) (K : ∀ τ ν, Inv τ ν → LEx 1132 (nI j) [] L xs τ ν) : LEx 572 (nI j) [] L xs σ μ := by
  obtain ⟨x, τ, ν, h1, h2, hI2⟩ := q_stands (a := xs (j + 1)) hI
  refine l_aload1 (pc := 572) (show decode code 572 = .ok (.aload_n 1, 1) by decide +kernel) ?_
  refine l_arg (pc := 573) (z := 1) j 1 (by decide +kernel) rfl (by omega) hL ?_
  refine l_callX (pc := 578) (h := jX8_stands) [.int (xs (j + 1))] [] (show decode code 578 = .ok (.invokevirtual 80, 3) by decide +kernel) ⟨hX8_stands, vX8_stands, ⟨by decide, by decide⟩, ll_80⟩ rfl rfl rfl rfl (Nat.le_of_ble_eq_true rfl) rfl h1 ?_
  refine l_aload2 (pc := 581) (show decode code 581 = .ok (.aload_n 2, 1) by decide +kernel) ?_
  refine l_arg (pc := 582) (z := 1) j 1 (by decide +kernel) rfl (by omega) hL ?_
  refine l_callM (pc := 587) (h := jX9_stands) [.int (xs (j + 1))] [.int x] (show decode code 587 = .ok (.invokevirtual 83, 3) by decide +kernel) ⟨hX9_stands, vX9_stands, ⟨by decide, by decide⟩, ll_83⟩ rfl rfl rfl rfl (Nat.le_of_ble_eq_true rfl) rfl h2 ?_
  exact l_same (pc := 590) 1132 (show decode code 590 = .ok (.if_icmp .eq 542, 3) by decide +kernel) (by decide) (K τ ν hI2)
theorem ll_84 : Cond.methodLink R_law 84 yX8_howls ∈ k_ws := by decide +kernel
theorem ll_87 : Cond.methodLink R_law 87 yX9_howls ∈ k_ws := by decide +kernel
theorem lc_howls {j L : Nat} {xs : Nat → Int32} {σ μ : kS} (hL : L ≤ 3072) (hj : j + 6 ≤ L) (hI : Inv σ μ) (K : ∀ τ ν, Inv τ ν → LEx 1132 (nI j) [] L xs τ ν) : LEx 595 (nI j) [] L xs σ μ := by
  obtain ⟨x, τ, ν, h1, h2, hI2⟩ := q_howls (a := xs (j + 1)) hI
  refine l_aload1 (pc := 595) (show decode code 595 = .ok (.aload_n 1, 1) by decide +kernel) ?_
  refine l_arg (pc := 596) (z := 1) j 1 (by decide +kernel) rfl (by omega) hL ?_
  refine l_callX (pc := 601) (h := jX8_howls) [.int (xs (j + 1))] [] (show decode code 601 = .ok (.invokevirtual 84, 3) by decide +kernel) ⟨hX8_howls, vX8_howls, ⟨by decide, by decide⟩, ll_84⟩ rfl rfl rfl rfl (Nat.le_of_ble_eq_true rfl) rfl h1 ?_
  refine l_aload2 (pc := 604) (show decode code 604 = .ok (.aload_n 2, 1) by decide +kernel) ?_
  refine l_arg (pc := 605) (z := 1) j 1 (by decide +kernel) rfl (by omega) hL ?_
  refine l_callM (pc := 610) (h := jX9_howls) [.int (xs (j + 1))] [.int x] (show decode code 610 = .ok (.invokevirtual 87, 3) by decide +kernel) ⟨hX9_howls, vX9_howls, ⟨by decide, by decide⟩, ll_87⟩ rfl rfl rfl rfl (Nat.le_of_ble_eq_true rfl) rfl h2 ?_
  exact l_same (pc := 613) 1132 (show decode code 613 = .ok (.if_icmp .eq 519, 3) by decide +kernel) (by decide) (K τ ν hI2)
theorem ll_88 : Cond.methodLink R_law 88 yX8_back ∈ k_ws := by decide +kernel
theorem ll_91 : Cond.methodLink R_law 91 yX9_back ∈ k_ws := by decide +kernel
theorem lc_back {j L : Nat} {xs : Nat → Int32} {σ μ : kS} (hL : L ≤ 3072) (hj : j + 6 ≤ L) (hI : Inv σ μ) (K : ∀ τ ν, Inv τ ν → LEx 1132 (nI j) [] L xs τ ν) : LEx 618 (nI j) [] L xs σ μ := by
  obtain ⟨x, τ, ν, h1, h2, hI2⟩ := q_back (a := xs (j + 1)) hI
  refine l_aload1 (pc := 618) (show decode code 618 = .ok (.aload_n 1, 1) by decide +kernel) ?_
  refine l_arg (pc := 619) (z := 1) j 1 (by decide +kernel) rfl (by omega) hL ?_
  refine l_callX (pc := 624) (h := jX8_back) [.int (xs (j + 1))] [] (show decode code 624 = .ok (.invokevirtual 88, 3) by decide +kernel) ⟨hX8_back, vX8_back, ⟨by decide, by decide⟩, ll_88⟩ rfl rfl rfl rfl (Nat.le_of_ble_eq_true rfl) rfl h1 ?_
  refine l_aload2 (pc := 627) (show decode code 627 = .ok (.aload_n 2, 1) by decide +kernel) ?_
  refine l_arg (pc := 628) (z := 1) j 1 (by decide +kernel) rfl (by omega) hL ?_
  refine l_callM (pc := 633) (h := jX9_back) [.int (xs (j + 1))] [.int x] (show decode code 633 = .ok (.invokevirtual 91, 3) by decide +kernel) ⟨hX9_back, vX9_back, ⟨by decide, by decide⟩, ll_91⟩ rfl rfl rfl rfl (Nat.le_of_ble_eq_true rfl) rfl h2 ?_
  exact l_same (pc := 636) 1132 (show decode code 636 = .ok (.if_icmp .eq 496, 3) by decide +kernel) (by decide) (K τ ν hI2)
theorem ll_92 : Cond.methodLink R_law 92 yX8_wind ∈ k_ws := by decide +kernel
theorem ll_96 : Cond.methodLink R_law 96 yX9_wind ∈ k_ws := by decide +kernel
theorem lc_wind {j L : Nat} {xs : Nat → Int32} {σ μ : kS} (hL : L ≤ 3072) (hj : j + 6 ≤ L) (hI : Inv σ μ) (K : ∀ τ ν, Inv τ ν → LEx 1132 (nI j) [] L xs τ ν) : LEx 641 (nI j) [] L xs σ μ := by
  obtain ⟨x, τ, ν, h1, h2, hI2⟩ := q_wind (a := xs (j + 1)) (b := xs (j + 2)) (c := xs (j + 3)) hI
  refine l_aload1 (pc := 641) (show decode code 641 = .ok (.aload_n 1, 1) by decide +kernel) ?_
  refine l_arg (pc := 642) (z := 1) j 1 (by decide +kernel) rfl (by omega) hL ?_
  refine l_arg (pc := 647) (z := 2) j 2 (by decide +kernel) rfl (by omega) hL ?_
  refine l_arg (pc := 652) (z := 3) j 3 (by decide +kernel) rfl (by omega) hL ?_
  refine l_callX (pc := 657) (h := jX8_wind) [.int (xs (j + 1)), .int (xs (j + 2)), .int (xs (j + 3))] [] (show decode code 657 = .ok (.invokevirtual 92, 3) by decide +kernel) ⟨hX8_wind, vX8_wind, ⟨by decide, by decide⟩, ll_92⟩ rfl rfl rfl rfl (Nat.le_of_ble_eq_true rfl) rfl h1 ?_
  refine l_aload2 (pc := 660) (show decode code 660 = .ok (.aload_n 2, 1) by decide +kernel) ?_
  refine l_arg (pc := 661) (z := 1) j 1 (by decide +kernel) rfl (by omega) hL ?_
  refine l_arg (pc := 666) (z := 2) j 2 (by decide +kernel) rfl (by omega) hL ?_
  refine l_arg (pc := 671) (z := 3) j 3 (by decide +kernel) rfl (by omega) hL ?_
  refine l_callM (pc := 676) (h := jX9_wind) [.int (xs (j + 1)), .int (xs (j + 2)), .int (xs (j + 3))] [.int x] (show decode code 676 = .ok (.invokevirtual 96, 3) by decide +kernel) ⟨hX9_wind, vX9_wind, ⟨by decide, by decide⟩, ll_96⟩ rfl rfl rfl rfl (Nat.le_of_ble_eq_true rfl) rfl h2 ?_
  exact l_same (pc := 679) 1132 (show decode code 679 = .ok (.if_icmp .eq 453, 3) by decide +kernel) (by decide) (K τ ν hI2)
