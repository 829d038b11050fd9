/-! the cases of the law, further -/
theorem ll_97 : Cond.methodLink R_law 97 yX8_decades ∈ k_ws := by decide +kernel
theorem ll_100 : Cond.methodLink R_law 100 yX9_decades ∈ k_ws := by decide +kernel
theorem lc_decades {j L : Nat} {xs : Nat → Int32} {σ μ : kS} (hL : L ≤ 3072) (hj : j + 6 ≤ L) (hI : Inv σ μ) (K : ∀ τ ν, Inv τ ν → LEx 1132 (nI j) [] L xs τ ν) : LEx 684 (nI j) [] L xs σ μ := by
  obtain ⟨x, τ, ν, h1, h2, hI2⟩ := q_decades (a := xs (j + 1)) (b := xs (j + 2)) (c := xs (j + 3)) hI
  refine l_aload1 (pc := 684) (show decode code 684 = .ok (.aload_n 1, 1) by decide +kernel) ?_
  refine l_arg (pc := 685) (z := 1) j 1 (by decide +kernel) rfl (by omega) hL ?_
  refine l_arg (pc := 690) (z := 2) j 2 (by decide +kernel) rfl (by omega) hL ?_
  refine l_arg (pc := 695) (z := 3) j 3 (by decide +kernel) rfl (by omega) hL ?_
  refine l_callX (pc := 700) (h := jX8_decades) [.int (xs (j + 1)), .int (xs (j + 2)), .int (xs (j + 3))] [] (show decode code 700 = .ok (.invokevirtual 97, 3) by decide +kernel) ⟨hX8_decades, vX8_decades, ⟨by decide, by decide⟩, ll_97⟩ rfl rfl rfl rfl (Nat.le_of_ble_eq_true rfl) rfl h1 ?_
  refine l_aload2 (pc := 703) (show decode code 703 = .ok (.aload_n 2, 1) by decide +kernel) ?_
  refine l_arg (pc := 704) (z := 1) j 1 (by decide +kernel) rfl (by omega) hL ?_
  refine l_arg (pc := 709) (z := 2) j 2 (by decide +kernel) rfl (by omega) hL ?_
  refine l_arg (pc := 714) (z := 3) j 3 (by decide +kernel) rfl (by omega) hL ?_
  refine l_callM (pc := 719) (h := jX9_decades) [.int (xs (j + 1)), .int (xs (j + 2)), .int (xs (j + 3))] [.int x] (show decode code 719 = .ok (.invokevirtual 100, 3) by decide +kernel) ⟨hX9_decades, vX9_decades, ⟨by decide, by decide⟩, ll_100⟩ rfl rfl rfl rfl (Nat.le_of_ble_eq_true rfl) rfl h2 ?_
  exact l_same (pc := 722) 1132 (show decode code 722 = .ok (.if_icmp .eq 410, 3) by decide +kernel) (by decide) (K τ ν hI2)
theorem ll_101 : Cond.methodLink R_law 101 yX8_sheet ∈ k_ws := by decide +kernel
theorem ll_104 : Cond.methodLink R_law 104 yX9_sheet ∈ k_ws := by decide +kernel
theorem lc_sheet {j L : Nat} {xs : Nat → Int32} {σ μ : kS} (hL : L ≤ 3072) (hj : j + 6 ≤ L) (hI : Inv σ μ) (K : ∀ τ ν, Inv τ ν → LEx 1132 (nI j) [] L xs τ ν) : LEx 727 (nI j) [] L xs σ μ := by
  obtain ⟨x, τ, ν, h1, h2, hI2⟩ := q_sheet (a := xs (j + 1)) (b := xs (j + 2)) (c := xs (j + 3)) hI
  refine l_aload1 (pc := 727) (show decode code 727 = .ok (.aload_n 1, 1) by decide +kernel) ?_
  refine l_arg (pc := 728) (z := 1) j 1 (by decide +kernel) rfl (by omega) hL ?_
  refine l_arg (pc := 733) (z := 2) j 2 (by decide +kernel) rfl (by omega) hL ?_
  refine l_arg (pc := 738) (z := 3) j 3 (by decide +kernel) rfl (by omega) hL ?_
  refine l_callX (pc := 743) (h := jX8_sheet) [.int (xs (j + 1)), .int (xs (j + 2)), .int (xs (j + 3))] [] (show decode code 743 = .ok (.invokevirtual 101, 3) by decide +kernel) ⟨hX8_sheet, vX8_sheet, ⟨by decide, by decide⟩, ll_101⟩ rfl rfl rfl rfl (Nat.le_of_ble_eq_true rfl) rfl h1 ?_
  refine l_aload2 (pc := 746) (show decode code 746 = .ok (.aload_n 2, 1) by decide +kernel) ?_
  refine l_arg (pc := 747) (z := 1) j 1 (by decide +kernel) rfl (by omega) hL ?_
  refine l_arg (pc := 752) (z := 2) j 2 (by decide +kernel) rfl (by omega) hL ?_
  refine l_arg (pc := 757) (z := 3) j 3 (by decide +kernel) rfl (by omega) hL ?_
  refine l_callM (pc := 762) (h := jX9_sheet) [.int (xs (j + 1)), .int (xs (j + 2)), .int (xs (j + 3))] [.int x] (show decode code 762 = .ok (.invokevirtual 104, 3) by decide +kernel) ⟨hX9_sheet, vX9_sheet, ⟨by decide, by decide⟩, ll_104⟩ rfl rfl rfl rfl (Nat.le_of_ble_eq_true rfl) rfl h2 ?_
  exact l_same (pc := 765) 1132 (show decode code 765 = .ok (.if_icmp .eq 367, 3) by decide +kernel) (by decide) (K τ ν hI2)
theorem ll_105 : Cond.methodLink R_law 105 yX8_drop ∈ k_ws := by decide +kernel
theorem ll_108 : Cond.methodLink R_law 108 yX9_drop ∈ k_ws := by decide +kernel
theorem lc_drop {j L : Nat} {xs : Nat → Int32} {σ μ : kS} (hL : L ≤ 3072) (hj : j + 6 ≤ L) (hI : Inv σ μ) (K : ∀ τ ν, Inv τ ν → LEx 1132 (nI j) [] L xs τ ν) : LEx 770 (nI j) [] L xs σ μ := by
  obtain ⟨x, τ, ν, h1, h2, hI2⟩ := q_drop (a := xs (j + 1)) hI
  refine l_aload1 (pc := 770) (show decode code 770 = .ok (.aload_n 1, 1) by decide +kernel) ?_
  refine l_arg (pc := 771) (z := 1) j 1 (by decide +kernel) rfl (by omega) hL ?_
  refine l_callX (pc := 776) (h := jX8_drop) [.int (xs (j + 1))] [] (show decode code 776 = .ok (.invokevirtual 105, 3) by decide +kernel) ⟨hX8_drop, vX8_drop, ⟨by decide, by decide⟩, ll_105⟩ rfl rfl rfl rfl (Nat.le_of_ble_eq_true rfl) rfl h1 ?_
  refine l_aload2 (pc := 779) (show decode code 779 = .ok (.aload_n 2, 1) by decide +kernel) ?_
  refine l_arg (pc := 780) (z := 1) j 1 (by decide +kernel) rfl (by omega) hL ?_
  refine l_callM (pc := 785) (h := jX9_drop) [.int (xs (j + 1))] [.int x] (show decode code 785 = .ok (.invokevirtual 108, 3) by decide +kernel) ⟨hX9_drop, vX9_drop, ⟨by decide, by decide⟩, ll_108⟩ rfl rfl rfl rfl (Nat.le_of_ble_eq_true rfl) rfl h2 ?_
  exact l_same (pc := 788) 1132 (show decode code 788 = .ok (.if_icmp .eq 344, 3) by decide +kernel) (by decide) (K τ ν hI2)
theorem ll_111 : Cond.methodLink R_law 111 yX8_item ∈ k_ws := by decide +kernel
theorem ll_115 : Cond.methodLink R_law 115 yX9_item ∈ k_ws := by decide +kernel
theorem lc_item {j L : Nat} {xs : Nat → Int32} {σ μ : kS} (hL : L ≤ 3072) (hj : j + 6 ≤ L) (hI : Inv σ μ) (K : ∀ τ ν, Inv τ ν → LEx 1132 (nI j) [] L xs τ ν) : LEx 793 (nI j) [] L xs σ μ := by
  obtain ⟨x, τ, ν, h1, h2, hI2⟩ := q_item (a := xs (j + 1)) (b := xs (j + 2)) (c := xs (j + 3)) (v := (((xs (j + 4)).toInt64 <<< ((32 : Int32).toInt64 &&& 63)) ||| ((xs (j + 5)).toInt64 &&& (4294967295 : Int64)))) hI
  refine l_aload1 (pc := 793) (show decode code 793 = .ok (.aload_n 1, 1) by decide +kernel) ?_
  refine l_arg (pc := 794) (z := 1) j 1 (by decide +kernel) rfl (by omega) hL ?_
  refine l_arg (pc := 799) (z := 2) j 2 (by decide +kernel) rfl (by omega) hL ?_
  refine l_arg (pc := 804) (z := 3) j 3 (by decide +kernel) rfl (by omega) hL ?_
  refine l_arg (pc := 809) (z := 4) j 4 (by decide +kernel) rfl (by omega) hL ?_
  refine l_i2l (pc := 814) (show decode code 814 = .ok (.i2l, 1) by decide +kernel) ?_
  refine l_bipush (pc := 815) 32 (show decode code 815 = .ok (.bipush 32, 2) by decide +kernel) rfl ?_
  refine l_lshl (pc := 817) (show decode code 817 = .ok (.lshl, 1) by decide +kernel) ?_
  refine l_arg (pc := 818) (z := 5) j 5 (by decide +kernel) rfl (by omega) hL ?_
  refine l_i2l (pc := 823) (show decode code 823 = .ok (.i2l, 1) by decide +kernel) ?_
  refine l_ldc2 (pc := 824) (v := 4294967295) (show decode code 824 = .ok (.ldc2_w 109, 3) by decide +kernel) lk_109 ?_
  refine l_land (pc := 827) (show decode code 827 = .ok (.land, 1) by decide +kernel) ?_
  refine l_lor (pc := 828) (show decode code 828 = .ok (.lor, 1) by decide +kernel) ?_
  refine l_callX (pc := 829) (h := jX8_item) [.int (xs (j + 1)), .int (xs (j + 2)), .int (xs (j + 3)), .long ((((xs (j + 4)).toInt64 <<< ((32 : Int32).toInt64 &&& 63)) ||| ((xs (j + 5)).toInt64 &&& (4294967295 : Int64))))] [] (show decode code 829 = .ok (.invokevirtual 111, 3) by decide +kernel) ⟨hX8_item, vX8_item, ⟨by decide, by decide⟩, ll_111⟩ rfl rfl rfl rfl (Nat.le_of_ble_eq_true rfl) rfl h1 ?_
  refine l_aload2 (pc := 832) (show decode code 832 = .ok (.aload_n 2, 1) by decide +kernel) ?_
  refine l_arg (pc := 833) (z := 1) j 1 (by decide +kernel) rfl (by omega) hL ?_
  refine l_arg (pc := 838) (z := 2) j 2 (by decide +kernel) rfl (by omega) hL ?_
  refine l_arg (pc := 843) (z := 3) j 3 (by decide +kernel) rfl (by omega) hL ?_
  refine l_arg (pc := 848) (z := 4) j 4 (by decide +kernel) rfl (by omega) hL ?_
  refine l_i2l (pc := 853) (show decode code 853 = .ok (.i2l, 1) by decide +kernel) ?_
  refine l_bipush (pc := 854) 32 (show decode code 854 = .ok (.bipush 32, 2) by decide +kernel) rfl ?_
  refine l_lshl (pc := 856) (show decode code 856 = .ok (.lshl, 1) by decide +kernel) ?_
  refine l_arg (pc := 857) (z := 5) j 5 (by decide +kernel) rfl (by omega) hL ?_
  refine l_i2l (pc := 862) (show decode code 862 = .ok (.i2l, 1) by decide +kernel) ?_
  refine l_ldc2 (pc := 863) (v := 4294967295) (show decode code 863 = .ok (.ldc2_w 109, 3) by decide +kernel) lk_109 ?_
  refine l_land (pc := 866) (show decode code 866 = .ok (.land, 1) by decide +kernel) ?_
  refine l_lor (pc := 867) (show decode code 867 = .ok (.lor, 1) by decide +kernel) ?_
  refine l_callM (pc := 868) (h := jX9_item) [.int (xs (j + 1)), .int (xs (j + 2)), .int (xs (j + 3)), .long ((((xs (j + 4)).toInt64 <<< ((32 : Int32).toInt64 &&& 63)) ||| ((xs (j + 5)).toInt64 &&& (4294967295 : Int64))))] [.long x] (show decode code 868 = .ok (.invokevirtual 115, 3) by decide +kernel) ⟨hX9_item, vX9_item, ⟨by decide, by decide⟩, ll_115⟩ rfl rfl rfl rfl (Nat.le_of_ble_eq_true rfl) rfl h2 ?_
  exact l_sameL (pc := 871) 1132 (show decode code 871 = .ok (.lcmp, 1) by decide +kernel) (show decode code 872 = .ok (.ifCond .eq 260, 3) by decide +kernel) (by decide) (K τ ν hI2)
theorem ll_116 : Cond.methodLink R_law 116 yX8_copy ∈ k_ws := by decide +kernel
theorem ll_120 : Cond.methodLink R_law 120 yX9_copy ∈ k_ws := by decide +kernel
theorem lc_copy {j L : Nat} {xs : Nat → Int32} {σ μ : kS} (hL : L ≤ 3072) (hj : j + 6 ≤ L) (hI : Inv σ μ) (K : ∀ τ ν, Inv τ ν → LEx 1132 (nI j) [] L xs τ ν) : LEx 877 (nI j) [] L xs σ μ := by
  obtain ⟨x, τ, ν, h1, h2, hI2⟩ := q_copy (a := xs (j + 1)) (b := xs (j + 2)) (c := xs (j + 3)) (d := xs (j + 4)) (e := xs (j + 5)) hI
  refine l_aload1 (pc := 877) (show decode code 877 = .ok (.aload_n 1, 1) by decide +kernel) ?_
  refine l_arg (pc := 878) (z := 1) j 1 (by decide +kernel) rfl (by omega) hL ?_
  refine l_arg (pc := 883) (z := 2) j 2 (by decide +kernel) rfl (by omega) hL ?_
  refine l_arg (pc := 888) (z := 3) j 3 (by decide +kernel) rfl (by omega) hL ?_
  refine l_arg (pc := 893) (z := 4) j 4 (by decide +kernel) rfl (by omega) hL ?_
  refine l_arg (pc := 898) (z := 5) j 5 (by decide +kernel) rfl (by omega) hL ?_
  refine l_callX (pc := 903) (h := jX8_copy) [.int (xs (j + 1)), .int (xs (j + 2)), .int (xs (j + 3)), .int (xs (j + 4)), .int (xs (j + 5))] [] (show decode code 903 = .ok (.invokevirtual 116, 3) by decide +kernel) ⟨hX8_copy, vX8_copy, ⟨by decide, by decide⟩, ll_116⟩ rfl rfl rfl rfl (Nat.le_of_ble_eq_true rfl) rfl h1 ?_
  refine l_aload2 (pc := 906) (show decode code 906 = .ok (.aload_n 2, 1) by decide +kernel) ?_
  refine l_arg (pc := 907) (z := 1) j 1 (by decide +kernel) rfl (by omega) hL ?_
  refine l_arg (pc := 912) (z := 2) j 2 (by decide +kernel) rfl (by omega) hL ?_
  refine l_arg (pc := 917) (z := 3) j 3 (by decide +kernel) rfl (by omega) hL ?_
  refine l_arg (pc := 922) (z := 4) j 4 (by decide +kernel) rfl (by omega) hL ?_
  refine l_arg (pc := 927) (z := 5) j 5 (by decide +kernel) rfl (by omega) hL ?_
  refine l_callM (pc := 932) (h := jX9_copy) [.int (xs (j + 1)), .int (xs (j + 2)), .int (xs (j + 3)), .int (xs (j + 4)), .int (xs (j + 5))] [.int x] (show decode code 932 = .ok (.invokevirtual 120, 3) by decide +kernel) ⟨hX9_copy, vX9_copy, ⟨by decide, by decide⟩, ll_120⟩ rfl rfl rfl rfl (Nat.le_of_ble_eq_true rfl) rfl h2 ?_
  exact l_same (pc := 935) 1132 (show decode code 935 = .ok (.if_icmp .eq 197, 3) by decide +kernel) (by decide) (K τ ν hI2)
theorem ll_121 : Cond.methodLink R_law 121 yX8_log ∈ k_ws := by decide +kernel
theorem ll_124 : Cond.methodLink R_law 124 yX9_log ∈ k_ws := by decide +kernel
theorem lc_log {j L : Nat} {xs : Nat → Int32} {σ μ : kS} (hL : L ≤ 3072) (hj : j + 6 ≤ L) (hI : Inv σ μ) (K : ∀ τ ν, Inv τ ν → LEx 1132 (nI j) [] L xs τ ν) : LEx 940 (nI j) [] L xs σ μ := by
  obtain ⟨x, τ, ν, h1, h2, hI2⟩ := q_log (a := xs (j + 1)) (b := xs (j + 2)) (c := xs (j + 3)) hI
  refine l_aload1 (pc := 940) (show decode code 940 = .ok (.aload_n 1, 1) by decide +kernel) ?_
  refine l_arg (pc := 941) (z := 1) j 1 (by decide +kernel) rfl (by omega) hL ?_
  refine l_arg (pc := 946) (z := 2) j 2 (by decide +kernel) rfl (by omega) hL ?_
  refine l_arg (pc := 951) (z := 3) j 3 (by decide +kernel) rfl (by omega) hL ?_
  refine l_callX (pc := 956) (h := jX8_log) [.int (xs (j + 1)), .int (xs (j + 2)), .int (xs (j + 3))] [] (show decode code 956 = .ok (.invokevirtual 121, 3) by decide +kernel) ⟨hX8_log, vX8_log, ⟨by decide, by decide⟩, ll_121⟩ rfl rfl rfl rfl (Nat.le_of_ble_eq_true rfl) rfl h1 ?_
  refine l_aload2 (pc := 959) (show decode code 959 = .ok (.aload_n 2, 1) by decide +kernel) ?_
  refine l_arg (pc := 960) (z := 1) j 1 (by decide +kernel) rfl (by omega) hL ?_
  refine l_arg (pc := 965) (z := 2) j 2 (by decide +kernel) rfl (by omega) hL ?_
  refine l_arg (pc := 970) (z := 3) j 3 (by decide +kernel) rfl (by omega) hL ?_
  refine l_callM (pc := 975) (h := jX9_log) [.int (xs (j + 1)), .int (xs (j + 2)), .int (xs (j + 3))] [.int x] (show decode code 975 = .ok (.invokevirtual 124, 3) by decide +kernel) ⟨hX9_log, vX9_log, ⟨by decide, by decide⟩, ll_124⟩ rfl rfl rfl rfl (Nat.le_of_ble_eq_true rfl) rfl h2 ?_
  exact l_same (pc := 978) 1132 (show decode code 978 = .ok (.if_icmp .eq 154, 3) by decide +kernel) (by decide) (K τ ν hI2)
theorem ll_125 : Cond.methodLink R_law 125 yX8_sounded ∈ k_ws := by decide +kernel
theorem ll_128 : Cond.methodLink R_law 128 yX9_sounded ∈ k_ws := by decide +kernel
theorem lc_sounded {j L : Nat} {xs : Nat → Int32} {σ μ : kS} (hL : L ≤ 3072) (hj : j + 6 ≤ L) (hI : Inv σ μ) (K : ∀ τ ν, Inv τ ν → LEx 1132 (nI j) [] L xs τ ν) : LEx 983 (nI j) [] L xs σ μ := by
  obtain ⟨x, τ, ν, h1, h2, hI2⟩ := q_sounded (a := xs (j + 1)) (b := xs (j + 2)) (c := xs (j + 3)) (d := xs (j + 4)) (e := xs (j + 5)) hI
  refine l_aload1 (pc := 983) (show decode code 983 = .ok (.aload_n 1, 1) by decide +kernel) ?_
  refine l_arg (pc := 984) (z := 1) j 1 (by decide +kernel) rfl (by omega) hL ?_
  refine l_arg (pc := 989) (z := 2) j 2 (by decide +kernel) rfl (by omega) hL ?_
  refine l_arg (pc := 994) (z := 3) j 3 (by decide +kernel) rfl (by omega) hL ?_
  refine l_arg (pc := 999) (z := 4) j 4 (by decide +kernel) rfl (by omega) hL ?_
  refine l_arg (pc := 1004) (z := 5) j 5 (by decide +kernel) rfl (by omega) hL ?_
  refine l_callX (pc := 1009) (h := jX8_sounded) [.int (xs (j + 1)), .int (xs (j + 2)), .int (xs (j + 3)), .int (xs (j + 4)), .int (xs (j + 5))] [] (show decode code 1009 = .ok (.invokevirtual 125, 3) by decide +kernel) ⟨hX8_sounded, vX8_sounded, ⟨by decide, by decide⟩, ll_125⟩ rfl rfl rfl rfl (Nat.le_of_ble_eq_true rfl) rfl h1 ?_
  refine l_aload2 (pc := 1012) (show decode code 1012 = .ok (.aload_n 2, 1) by decide +kernel) ?_
  refine l_arg (pc := 1013) (z := 1) j 1 (by decide +kernel) rfl (by omega) hL ?_
  refine l_arg (pc := 1018) (z := 2) j 2 (by decide +kernel) rfl (by omega) hL ?_
  refine l_arg (pc := 1023) (z := 3) j 3 (by decide +kernel) rfl (by omega) hL ?_
  refine l_arg (pc := 1028) (z := 4) j 4 (by decide +kernel) rfl (by omega) hL ?_
  refine l_arg (pc := 1033) (z := 5) j 5 (by decide +kernel) rfl (by omega) hL ?_
  refine l_callM (pc := 1038) (h := jX9_sounded) [.int (xs (j + 1)), .int (xs (j + 2)), .int (xs (j + 3)), .int (xs (j + 4)), .int (xs (j + 5))] [.int x] (show decode code 1038 = .ok (.invokevirtual 128, 3) by decide +kernel) ⟨hX9_sounded, vX9_sounded, ⟨by decide, by decide⟩, ll_128⟩ rfl rfl rfl rfl (Nat.le_of_ble_eq_true rfl) rfl h2 ?_
  exact l_same (pc := 1041) 1132 (show decode code 1041 = .ok (.if_icmp .eq 91, 3) by decide +kernel) (by decide) (K τ ν hI2)
theorem ll_129 : Cond.methodLink R_law 129 yX8_kinds ∈ k_ws := by decide +kernel
theorem ll_132 : Cond.methodLink R_law 132 yX9_kinds ∈ k_ws := by decide +kernel
theorem lc_kinds {j L : Nat} {xs : Nat → Int32} {σ μ : kS} (hL : L ≤ 3072) (hj : j + 6 ≤ L) (hI : Inv σ μ) (K : ∀ τ ν, Inv τ ν → LEx 1132 (nI j) [] L xs τ ν) : LEx 1046 (nI j) [] L xs σ μ := by
  obtain ⟨x, τ, ν, h1, h2, hI2⟩ := q_kinds (a := xs (j + 1)) (b := xs (j + 2)) (c := xs (j + 3)) (d := xs (j + 4)) (e := xs (j + 5)) hI
  refine l_aload1 (pc := 1046) (show decode code 1046 = .ok (.aload_n 1, 1) by decide +kernel) ?_
  refine l_arg (pc := 1047) (z := 1) j 1 (by decide +kernel) rfl (by omega) hL ?_
  refine l_arg (pc := 1052) (z := 2) j 2 (by decide +kernel) rfl (by omega) hL ?_
  refine l_arg (pc := 1057) (z := 3) j 3 (by decide +kernel) rfl (by omega) hL ?_
  refine l_arg (pc := 1062) (z := 4) j 4 (by decide +kernel) rfl (by omega) hL ?_
  refine l_arg (pc := 1067) (z := 5) j 5 (by decide +kernel) rfl (by omega) hL ?_
  refine l_callX (pc := 1072) (h := jX8_kinds) [.int (xs (j + 1)), .int (xs (j + 2)), .int (xs (j + 3)), .int (xs (j + 4)), .int (xs (j + 5))] [] (show decode code 1072 = .ok (.invokevirtual 129, 3) by decide +kernel) ⟨hX8_kinds, vX8_kinds, ⟨by decide, by decide⟩, ll_129⟩ rfl rfl rfl rfl (Nat.le_of_ble_eq_true rfl) rfl h1 ?_
  refine l_aload2 (pc := 1075) (show decode code 1075 = .ok (.aload_n 2, 1) by decide +kernel) ?_
  refine l_arg (pc := 1076) (z := 1) j 1 (by decide +kernel) rfl (by omega) hL ?_
  refine l_arg (pc := 1081) (z := 2) j 2 (by decide +kernel) rfl (by omega) hL ?_
  refine l_arg (pc := 1086) (z := 3) j 3 (by decide +kernel) rfl (by omega) hL ?_
  refine l_arg (pc := 1091) (z := 4) j 4 (by decide +kernel) rfl (by omega) hL ?_
  refine l_arg (pc := 1096) (z := 5) j 5 (by decide +kernel) rfl (by omega) hL ?_
  refine l_callM (pc := 1101) (h := jX9_kinds) [.int (xs (j + 1)), .int (xs (j + 2)), .int (xs (j + 3)), .int (xs (j + 4)), .int (xs (j + 5))] [.int x] (show decode code 1101 = .ok (.invokevirtual 132, 3) by decide +kernel) ⟨hX9_kinds, vX9_kinds, ⟨by decide, by decide⟩, ll_132⟩ rfl rfl rfl rfl (Nat.le_of_ble_eq_true rfl) rfl h2 ?_
  exact l_same (pc := 1104) 1132 (show decode code 1104 = .ok (.if_icmp .eq 28, 3) by decide +kernel) (by decide) (K τ ν hI2)
theorem ll_133 : Cond.methodLink R_law 133 yX8_count ∈ k_ws := by decide +kernel
theorem ll_136 : Cond.methodLink R_law 136 yX9_count ∈ k_ws := by decide +kernel
theorem lc_count {j L : Nat} {xs : Nat → Int32} {σ μ : kS} (hL : L ≤ 3072) (hj : j + 6 ≤ L) (hI : Inv σ μ) (K : ∀ τ ν, Inv τ ν → LEx 1132 (nI j) [] L xs τ ν) : LEx 1109 (nI j) [] L xs σ μ := by
  obtain ⟨x, τ, ν, h1, h2, hI2⟩ := q_count (a := xs (j + 1)) hI
  refine l_aload1 (pc := 1109) (show decode code 1109 = .ok (.aload_n 1, 1) by decide +kernel) ?_
  refine l_arg (pc := 1110) (z := 1) j 1 (by decide +kernel) rfl (by omega) hL ?_
  refine l_callX (pc := 1115) (h := jX8_count) [.int (xs (j + 1))] [] (show decode code 1115 = .ok (.invokevirtual 133, 3) by decide +kernel) ⟨hX8_count, vX8_count, ⟨by decide, by decide⟩, ll_133⟩ rfl rfl rfl rfl (Nat.le_of_ble_eq_true rfl) rfl h1 ?_
  refine l_aload2 (pc := 1118) (show decode code 1118 = .ok (.aload_n 2, 1) by decide +kernel) ?_
  refine l_arg (pc := 1119) (z := 1) j 1 (by decide +kernel) rfl (by omega) hL ?_
  refine l_callM (pc := 1124) (h := jX9_count) [.int (xs (j + 1))] [.int x] (show decode code 1124 = .ok (.invokevirtual 136, 3) by decide +kernel) ⟨hX9_count, vX9_count, ⟨by decide, by decide⟩, ll_136⟩ rfl rfl rfl rfl (Nat.le_of_ble_eq_true rfl) rfl h2 ?_
  exact l_same (pc := 1127) 1132 (show decode code 1127 = .ok (.if_icmp .eq 5, 3) by decide +kernel) (by decide) (K τ ν hI2)
