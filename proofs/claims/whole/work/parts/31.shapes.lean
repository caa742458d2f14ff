theorem rc0_2 {j : Nat} (h : sg_K Yc j 0) : Yc.2.2.2 j 2 = j + 1 := (show ∀ j, j < Yc.1 → Yc.2.1 j = 0 → Yc.2.2.2 j 2 = j + 1 by decide +kernel) j h.1 h.2
theorem lc0_2 {j : Nat} (h : sg_K Yc j 0) : Yc.2.2.1 (j + 1) = 9 := (show ∀ j, j < Yc.1 → Yc.2.1 j = 0 → Yc.2.2.1 (j + 1) = 9 by decide +kernel) j h.1 h.2
theorem rc0_3 {j : Nat} (h : sg_K Yc j 0) : Yc.2.2.2 j 3 = j + 2 := (show ∀ j, j < Yc.1 → Yc.2.1 j = 0 → Yc.2.2.2 j 3 = j + 2 by decide +kernel) j h.1 h.2
theorem lc0_3 {j : Nat} (h : sg_K Yc j 0) : Yc.2.2.1 (j + 2) = 4 := (show ∀ j, j < Yc.1 → Yc.2.1 j = 0 → Yc.2.2.1 (j + 2) = 4 by decide +kernel) j h.1 h.2
theorem rc0_4 {j : Nat} (h : sg_K Yc j 0) : Yc.2.2.2 j 4 = j + 3 := (show ∀ j, j < Yc.1 → Yc.2.1 j = 0 → Yc.2.2.2 j 4 = j + 3 by decide +kernel) j h.1 h.2
theorem rc1_2 {j : Nat} (h : sg_K Yc j 1) : Yc.2.2.2 j 2 = j + 1 := (show ∀ j, j < Yc.1 → Yc.2.1 j = 1 → Yc.2.2.2 j 2 = j + 1 by decide +kernel) j h.1 h.2
theorem lc1_2 {j : Nat} (h : sg_K Yc j 1) : Yc.2.2.1 (j + 1) = 9 := (show ∀ j, j < Yc.1 → Yc.2.1 j = 1 → Yc.2.2.1 (j + 1) = 9 by decide +kernel) j h.1 h.2
theorem rc1_3 {j : Nat} (h : sg_K Yc j 1) : Yc.2.2.2 j 3 = j + 2 := (show ∀ j, j < Yc.1 → Yc.2.1 j = 1 → Yc.2.2.2 j 3 = j + 2 by decide +kernel) j h.1 h.2
theorem rc1_5 {j : Nat} (h : sg_K Yc j 1) : Yc.2.2.2 j 5 = j + 3 := (show ∀ j, j < Yc.1 → Yc.2.1 j = 1 → Yc.2.2.2 j 5 = j + 3 by decide +kernel) j h.1 h.2
theorem lc1_5 {j : Nat} (h : sg_K Yc j 1) : Yc.2.2.1 (j + 3) = 9 := (show ∀ j, j < Yc.1 → Yc.2.1 j = 1 → Yc.2.2.1 (j + 3) = 9 by decide +kernel) j h.1 h.2
theorem rc1_6 {j : Nat} (h : sg_K Yc j 1) : Yc.2.2.2 j 6 = j + 4 := (show ∀ j, j < Yc.1 → Yc.2.1 j = 1 → Yc.2.2.2 j 6 = j + 4 by decide +kernel) j h.1 h.2
theorem lc1_6 {j : Nat} (h : sg_K Yc j 1) : Yc.2.2.1 (j + 4) = 9 := (show ∀ j, j < Yc.1 → Yc.2.1 j = 1 → Yc.2.2.1 (j + 4) = 9 by decide +kernel) j h.1 h.2
theorem rc1_7 {j : Nat} (h : sg_K Yc j 1) : Yc.2.2.2 j 7 = j + 5 := (show ∀ j, j < Yc.1 → Yc.2.1 j = 1 → Yc.2.2.2 j 7 = j + 5 by decide +kernel) j h.1 h.2
theorem lc1_7 {j : Nat} (h : sg_K Yc j 1) : Yc.2.2.1 (j + 5) = 9 := (show ∀ j, j < Yc.1 → Yc.2.1 j = 1 → Yc.2.2.1 (j + 5) = 9 by decide +kernel) j h.1 h.2
theorem re1_7 {j i : Nat} (h : sg_K Yc j 1) (hi : i < 9) : Yc.2.2.2 (j + 5) i = j + 6 + 1 * i := (show ∀ j, j < Yc.1 → Yc.2.1 j = 1 → ∀ i, i < 9 → Yc.2.2.2 (j + 5) i = j + 6 + 1 * i by decide +kernel) j h.1 h.2 i hi
theorem le1_7 {j i : Nat} (h : sg_K Yc j 1) (hi : i < 9) : Yc.2.2.1 (j + 6 + i) = 10 := (show ∀ j, j < Yc.1 → Yc.2.1 j = 1 → ∀ i, i < 9 → Yc.2.2.1 (j + 6 + i) = 10 by decide +kernel) j h.1 h.2 i hi
theorem rc1_8 {j : Nat} (h : sg_K Yc j 1) : Yc.2.2.2 j 8 = j + 15 := (show ∀ j, j < Yc.1 → Yc.2.1 j = 1 → Yc.2.2.2 j 8 = j + 15 by decide +kernel) j h.1 h.2
theorem lc1_8 {j : Nat} (h : sg_K Yc j 1) : Yc.2.2.1 (j + 15) = 9 := (show ∀ j, j < Yc.1 → Yc.2.1 j = 1 → Yc.2.2.1 (j + 15) = 9 by decide +kernel) j h.1 h.2
theorem rc2_1 {j : Nat} (h : sg_K Yc j 2) : Yc.2.2.2 j 1 = j + 1 := (show ∀ j, j < Yc.1 → Yc.2.1 j = 2 → Yc.2.2.2 j 1 = j + 1 by decide +kernel) j h.1 h.2
theorem rc2_3 {j : Nat} (h : sg_K Yc j 2) : Yc.2.2.2 j 3 = j + 2 := (show ∀ j, j < Yc.1 → Yc.2.1 j = 2 → Yc.2.2.2 j 3 = j + 2 by decide +kernel) j h.1 h.2
theorem lc2_3 {j : Nat} (h : sg_K Yc j 2) : Yc.2.2.1 (j + 2) = 9 := (show ∀ j, j < Yc.1 → Yc.2.1 j = 2 → Yc.2.2.1 (j + 2) = 9 by decide +kernel) j h.1 h.2
theorem rc2_4 {j : Nat} (h : sg_K Yc j 2) : Yc.2.2.2 j 4 = j + 3 := (show ∀ j, j < Yc.1 → Yc.2.1 j = 2 → Yc.2.2.2 j 4 = j + 3 by decide +kernel) j h.1 h.2
theorem rc3_3 {j : Nat} (h : sg_K Yc j 3) : Yc.2.2.2 j 3 = j + 1 := (show ∀ j, j < Yc.1 → Yc.2.1 j = 3 → Yc.2.2.2 j 3 = j + 1 by decide +kernel) j h.1 h.2
theorem lc3_3 {j : Nat} (h : sg_K Yc j 3) : Yc.2.2.1 (j + 1) = 66 := (show ∀ j, j < Yc.1 → Yc.2.1 j = 3 → Yc.2.2.1 (j + 1) = 66 by decide +kernel) j h.1 h.2
theorem rc3_6 {j : Nat} (h : sg_K Yc j 3) : Yc.2.2.2 j 6 = j + 2 := (show ∀ j, j < Yc.1 → Yc.2.1 j = 3 → Yc.2.2.2 j 6 = j + 2 by decide +kernel) j h.1 h.2
theorem lc3_6 {j : Nat} (h : sg_K Yc j 3) : Yc.2.2.1 (j + 2) = 12 := (show ∀ j, j < Yc.1 → Yc.2.1 j = 3 → Yc.2.2.1 (j + 2) = 12 by decide +kernel) j h.1 h.2
theorem rc3_7 {j : Nat} (h : sg_K Yc j 3) : Yc.2.2.2 j 7 = j + 3 := (show ∀ j, j < Yc.1 → Yc.2.1 j = 3 → Yc.2.2.2 j 7 = j + 3 by decide +kernel) j h.1 h.2
theorem rc3_8 {j : Nat} (h : sg_K Yc j 3) : Yc.2.2.2 j 8 = j + 4 := (show ∀ j, j < Yc.1 → Yc.2.1 j = 3 → Yc.2.2.2 j 8 = j + 4 by decide +kernel) j h.1 h.2
theorem rc4_9 {j : Nat} (h : sg_K Yc j 4) : Yc.2.2.2 j 9 = j + 1 := (show ∀ j, j < Yc.1 → Yc.2.1 j = 4 → Yc.2.2.2 j 9 = j + 1 by decide +kernel) j h.1 h.2
theorem lc4_9 {j : Nat} (h : sg_K Yc j 4) : Yc.2.2.1 (j + 1) = 12 := (show ∀ j, j < Yc.1 → Yc.2.1 j = 4 → Yc.2.2.1 (j + 1) = 12 by decide +kernel) j h.1 h.2
theorem rc4_10 {j : Nat} (h : sg_K Yc j 4) : Yc.2.2.2 j 10 = j + 2 := (show ∀ j, j < Yc.1 → Yc.2.1 j = 4 → Yc.2.2.2 j 10 = j + 2 by decide +kernel) j h.1 h.2
theorem lc4_10 {j : Nat} (h : sg_K Yc j 4) : Yc.2.2.1 (j + 2) = 12 := (show ∀ j, j < Yc.1 → Yc.2.1 j = 4 → Yc.2.2.1 (j + 2) = 12 by decide +kernel) j h.1 h.2
theorem rc4_11 {j : Nat} (h : sg_K Yc j 4) : Yc.2.2.2 j 11 = j + 3 := (show ∀ j, j < Yc.1 → Yc.2.1 j = 4 → Yc.2.2.2 j 11 = j + 3 by decide +kernel) j h.1 h.2
theorem lc4_11 {j : Nat} (h : sg_K Yc j 4) : Yc.2.2.1 (j + 3) = 12 := (show ∀ j, j < Yc.1 → Yc.2.1 j = 4 → Yc.2.2.1 (j + 3) = 12 by decide +kernel) j h.1 h.2
theorem rc4_12 {j : Nat} (h : sg_K Yc j 4) : Yc.2.2.2 j 12 = j + 4 := (show ∀ j, j < Yc.1 → Yc.2.1 j = 4 → Yc.2.2.2 j 12 = j + 4 by decide +kernel) j h.1 h.2
theorem lc4_12 {j : Nat} (h : sg_K Yc j 4) : Yc.2.2.1 (j + 4) = 9 := (show ∀ j, j < Yc.1 → Yc.2.1 j = 4 → Yc.2.2.1 (j + 4) = 9 by decide +kernel) j h.1 h.2
theorem rc4_13 {j : Nat} (h : sg_K Yc j 4) : Yc.2.2.2 j 13 = j + 5 := (show ∀ j, j < Yc.1 → Yc.2.1 j = 4 → Yc.2.2.2 j 13 = j + 5 by decide +kernel) j h.1 h.2
theorem lc4_13 {j : Nat} (h : sg_K Yc j 4) : Yc.2.2.1 (j + 5) = 9 := (show ∀ j, j < Yc.1 → Yc.2.1 j = 4 → Yc.2.2.1 (j + 5) = 9 by decide +kernel) j h.1 h.2
theorem rc4_14 {j : Nat} (h : sg_K Yc j 4) : Yc.2.2.2 j 14 = j + 6 := (show ∀ j, j < Yc.1 → Yc.2.1 j = 4 → Yc.2.2.2 j 14 = j + 6 by decide +kernel) j h.1 h.2
theorem lc4_14 {j : Nat} (h : sg_K Yc j 4) : Yc.2.2.1 (j + 6) = 4 := (show ∀ j, j < Yc.1 → Yc.2.1 j = 4 → Yc.2.2.1 (j + 6) = 4 by decide +kernel) j h.1 h.2
theorem rc4_15 {j : Nat} (h : sg_K Yc j 4) : Yc.2.2.2 j 15 = j + 7 := (show ∀ j, j < Yc.1 → Yc.2.1 j = 4 → Yc.2.2.2 j 15 = j + 7 by decide +kernel) j h.1 h.2
theorem lc4_15 {j : Nat} (h : sg_K Yc j 4) : Yc.2.2.1 (j + 7) = 20 := (show ∀ j, j < Yc.1 → Yc.2.1 j = 4 → Yc.2.2.1 (j + 7) = 20 by decide +kernel) j h.1 h.2
theorem rc4_16 {j : Nat} (h : sg_K Yc j 4) : Yc.2.2.2 j 16 = j + 8 := (show ∀ j, j < Yc.1 → Yc.2.1 j = 4 → Yc.2.2.2 j 16 = j + 8 by decide +kernel) j h.1 h.2
theorem lc4_16 {j : Nat} (h : sg_K Yc j 4) : Yc.2.2.1 (j + 8) = 20 := (show ∀ j, j < Yc.1 → Yc.2.1 j = 4 → Yc.2.2.1 (j + 8) = 20 by decide +kernel) j h.1 h.2
theorem rc4_17 {j : Nat} (h : sg_K Yc j 4) : Yc.2.2.2 j 17 = j + 9 := (show ∀ j, j < Yc.1 → Yc.2.1 j = 4 → Yc.2.2.2 j 17 = j + 9 by decide +kernel) j h.1 h.2
theorem lc4_17 {j : Nat} (h : sg_K Yc j 4) : Yc.2.2.1 (j + 9) = 20 := (show ∀ j, j < Yc.1 → Yc.2.1 j = 4 → Yc.2.2.1 (j + 9) = 20 by decide +kernel) j h.1 h.2
theorem rc5_1 {j : Nat} (h : sg_K Yc j 5) : Yc.2.2.2 j 1 = j + 1 := (show ∀ j, j < Yc.1 → Yc.2.1 j = 5 → Yc.2.2.2 j 1 = j + 1 by decide +kernel) j h.1 h.2
theorem lc5_1 {j : Nat} (h : sg_K Yc j 5) : Yc.2.2.1 (j + 1) = 9 := (show ∀ j, j < Yc.1 → Yc.2.1 j = 5 → Yc.2.2.1 (j + 1) = 9 by decide +kernel) j h.1 h.2
theorem rc5_2 {j : Nat} (h : sg_K Yc j 5) : Yc.2.2.2 j 2 = j + 2 := (show ∀ j, j < Yc.1 → Yc.2.1 j = 5 → Yc.2.2.2 j 2 = j + 2 by decide +kernel) j h.1 h.2
theorem lc5_2 {j : Nat} (h : sg_K Yc j 5) : Yc.2.2.1 (j + 2) = 10 := (show ∀ j, j < Yc.1 → Yc.2.1 j = 5 → Yc.2.2.1 (j + 2) = 10 by decide +kernel) j h.1 h.2
theorem re5_2 {j i : Nat} (h : sg_K Yc j 5) (hi : i < 10) : Yc.2.2.2 (j + 2) i = j + 3 + 1 * i := (show ∀ j, j < Yc.1 → Yc.2.1 j = 5 → ∀ i, i < 10 → Yc.2.2.2 (j + 2) i = j + 3 + 1 * i by decide +kernel) j h.1 h.2 i hi
theorem rc5_4 {j : Nat} (h : sg_K Yc j 5) : Yc.2.2.2 j 4 = j + 13 := (show ∀ j, j < Yc.1 → Yc.2.1 j = 5 → Yc.2.2.2 j 4 = j + 13 by decide +kernel) j h.1 h.2
theorem lc5_4 {j : Nat} (h : sg_K Yc j 5) : Yc.2.2.1 (j + 13) = 10 := (show ∀ j, j < Yc.1 → Yc.2.1 j = 5 → Yc.2.2.1 (j + 13) = 10 by decide +kernel) j h.1 h.2
theorem rc5_5 {j : Nat} (h : sg_K Yc j 5) : Yc.2.2.2 j 5 = j + 14 := (show ∀ j, j < Yc.1 → Yc.2.1 j = 5 → Yc.2.2.2 j 5 = j + 14 by decide +kernel) j h.1 h.2
theorem lc5_5 {j : Nat} (h : sg_K Yc j 5) : Yc.2.2.1 (j + 14) = 10 := (show ∀ j, j < Yc.1 → Yc.2.1 j = 5 → Yc.2.2.1 (j + 14) = 10 by decide +kernel) j h.1 h.2
theorem rc5_6 {j : Nat} (h : sg_K Yc j 5) : Yc.2.2.2 j 6 = j + 15 := (show ∀ j, j < Yc.1 → Yc.2.1 j = 5 → Yc.2.2.2 j 6 = j + 15 by decide +kernel) j h.1 h.2
theorem rc5_7 {j : Nat} (h : sg_K Yc j 5) : Yc.2.2.2 j 7 = j + 16 := (show ∀ j, j < Yc.1 → Yc.2.1 j = 5 → Yc.2.2.2 j 7 = j + 16 by decide +kernel) j h.1 h.2
theorem rc6_3 {j : Nat} (h : sg_K Yc j 6) : Yc.2.2.2 j 3 = j + 1 := (show ∀ j, j < Yc.1 → Yc.2.1 j = 6 → Yc.2.2.2 j 3 = j + 1 by decide +kernel) j h.1 h.2
theorem rc6_4 {j : Nat} (h : sg_K Yc j 6) : Yc.2.2.2 j 4 = j + 11 := (show ∀ j, j < Yc.1 → Yc.2.1 j = 6 → Yc.2.2.2 j 4 = j + 11 by decide +kernel) j h.1 h.2
theorem lc6_4 {j : Nat} (h : sg_K Yc j 6) : Yc.2.2.1 (j + 11) = 700 := (show ∀ j, j < Yc.1 → Yc.2.1 j = 6 → Yc.2.2.1 (j + 11) = 700 by decide +kernel) j h.1 h.2
theorem rc8_2 {j : Nat} (h : sg_K Yc j 8) : Yc.2.2.2 j 2 = j + 1 := (show ∀ j, j < Yc.1 → Yc.2.1 j = 8 → Yc.2.2.2 j 2 = j + 1 by decide +kernel) j h.1 h.2
theorem lc8_2 {j : Nat} (h : sg_K Yc j 8) : Yc.2.2.1 (j + 1) = 20 := (show ∀ j, j < Yc.1 → Yc.2.1 j = 8 → Yc.2.2.1 (j + 1) = 20 by decide +kernel) j h.1 h.2
theorem rc8_4 {j : Nat} (h : sg_K Yc j 8) : Yc.2.2.2 j 4 = j + 2 := (show ∀ j, j < Yc.1 → Yc.2.1 j = 8 → Yc.2.2.2 j 4 = j + 2 by decide +kernel) j h.1 h.2
theorem lc8_4 {j : Nat} (h : sg_K Yc j 8) : Yc.2.2.1 (j + 2) = 3 := (show ∀ j, j < Yc.1 → Yc.2.1 j = 8 → Yc.2.2.1 (j + 2) = 3 by decide +kernel) j h.1 h.2
theorem rc8_6 {j : Nat} (h : sg_K Yc j 8) : Yc.2.2.2 j 6 = j + 3 := (show ∀ j, j < Yc.1 → Yc.2.1 j = 8 → Yc.2.2.2 j 6 = j + 3 by decide +kernel) j h.1 h.2
theorem lc8_6 {j : Nat} (h : sg_K Yc j 8) : Yc.2.2.1 (j + 3) = 12 := (show ∀ j, j < Yc.1 → Yc.2.1 j = 8 → Yc.2.2.1 (j + 3) = 12 by decide +kernel) j h.1 h.2
theorem rc8_10 {j : Nat} (h : sg_K Yc j 8) : Yc.2.2.2 j 10 = j + 4 := (show ∀ j, j < Yc.1 → Yc.2.1 j = 8 → Yc.2.2.2 j 10 = j + 4 by decide +kernel) j h.1 h.2
theorem lc8_10 {j : Nat} (h : sg_K Yc j 8) : Yc.2.2.1 (j + 4) = 12 := (show ∀ j, j < Yc.1 → Yc.2.1 j = 8 → Yc.2.2.1 (j + 4) = 12 by decide +kernel) j h.1 h.2
theorem rc8_11 {j : Nat} (h : sg_K Yc j 8) : Yc.2.2.2 j 11 = j + 5 := (show ∀ j, j < Yc.1 → Yc.2.1 j = 8 → Yc.2.2.2 j 11 = j + 5 by decide +kernel) j h.1 h.2
theorem rc8_12 {j : Nat} (h : sg_K Yc j 8) : Yc.2.2.2 j 12 = j + 6 := (show ∀ j, j < Yc.1 → Yc.2.1 j = 8 → Yc.2.2.2 j 12 = j + 6 by decide +kernel) j h.1 h.2
theorem rc8_13 {j : Nat} (h : sg_K Yc j 8) : Yc.2.2.2 j 13 = j + 7 := (show ∀ j, j < Yc.1 → Yc.2.1 j = 8 → Yc.2.2.2 j 13 = j + 7 by decide +kernel) j h.1 h.2
theorem rc9_3 {j : Nat} (h : sg_K Yc j 9) : Yc.2.2.2 j 3 = j + 1 := (show ∀ j, j < Yc.1 → Yc.2.1 j = 9 → Yc.2.2.2 j 3 = j + 1 by decide +kernel) j h.1 h.2
theorem lc9_3 {j : Nat} (h : sg_K Yc j 9) : Yc.2.2.1 (j + 1) = 49 := (show ∀ j, j < Yc.1 → Yc.2.1 j = 9 → Yc.2.2.1 (j + 1) = 49 by decide +kernel) j h.1 h.2
theorem re9_3 {j i : Nat} (h : sg_K Yc j 9) (hi : i < 49) : Yc.2.2.2 (j + 1) i = j + 2 + 1 * i := (show ∀ j, j < Yc.1 → Yc.2.1 j = 9 → ∀ i, i < 49 → Yc.2.2.2 (j + 1) i = j + 2 + 1 * i by decide +kernel) j h.1 h.2 i hi
theorem le9_3 {j i : Nat} (h : sg_K Yc j 9) (hi : i < 49) : Yc.2.2.1 (j + 2 + i) = 12 := (show ∀ j, j < Yc.1 → Yc.2.1 j = 9 → ∀ i, i < 49 → Yc.2.2.1 (j + 2 + i) = 12 by decide +kernel) j h.1 h.2 i hi
theorem rc9_4 {j : Nat} (h : sg_K Yc j 9) : Yc.2.2.2 j 4 = j + 51 := (show ∀ j, j < Yc.1 → Yc.2.1 j = 9 → Yc.2.2.2 j 4 = j + 51 by decide +kernel) j h.1 h.2
theorem rc10_0 {j : Nat} (h : sg_K Yc j 10) : Yc.2.2.2 j 0 = j + 1 := (show ∀ j, j < Yc.1 → Yc.2.1 j = 10 → Yc.2.2.2 j 0 = j + 1 by decide +kernel) j h.1 h.2
theorem rc10_1 {j : Nat} (h : sg_K Yc j 10) : Yc.2.2.2 j 1 = j + 13 := (show ∀ j, j < Yc.1 → Yc.2.1 j = 10 → Yc.2.2.2 j 1 = j + 13 by decide +kernel) j h.1 h.2
theorem rc10_2 {j : Nat} (h : sg_K Yc j 10) : Yc.2.2.2 j 2 = j + 23 := (show ∀ j, j < Yc.1 → Yc.2.1 j = 10 → Yc.2.2.2 j 2 = j + 23 by decide +kernel) j h.1 h.2
theorem lc10_2 {j : Nat} (h : sg_K Yc j 10) : Yc.2.2.1 (j + 23) = 3 := (show ∀ j, j < Yc.1 → Yc.2.1 j = 10 → Yc.2.2.1 (j + 23) = 3 by decide +kernel) j h.1 h.2
theorem re10_2 {j i : Nat} (h : sg_K Yc j 10) (hi : i < 3) : Yc.2.2.2 (j + 23) i = j + 24 + 10 * i := (show ∀ j, j < Yc.1 → Yc.2.1 j = 10 → ∀ i, i < 3 → Yc.2.2.2 (j + 23) i = j + 24 + 10 * i by decide +kernel) j h.1 h.2 i hi
theorem rc10_3 {j : Nat} (h : sg_K Yc j 10) : Yc.2.2.2 j 3 = j + 54 := (show ∀ j, j < Yc.1 → Yc.2.1 j = 10 → Yc.2.2.2 j 3 = j + 54 by decide +kernel) j h.1 h.2
theorem lc10_3 {j : Nat} (h : sg_K Yc j 10) : Yc.2.2.1 (j + 54) = 3 := (show ∀ j, j < Yc.1 → Yc.2.1 j = 10 → Yc.2.2.1 (j + 54) = 3 by decide +kernel) j h.1 h.2
theorem rc10_4 {j : Nat} (h : sg_K Yc j 10) : Yc.2.2.2 j 4 = j + 55 := (show ∀ j, j < Yc.1 → Yc.2.1 j = 10 → Yc.2.2.2 j 4 = j + 55 by decide +kernel) j h.1 h.2
theorem rc10_6 {j : Nat} (h : sg_K Yc j 10) : Yc.2.2.2 j 6 = j + 71 := (show ∀ j, j < Yc.1 → Yc.2.1 j = 10 → Yc.2.2.2 j 6 = j + 71 by decide +kernel) j h.1 h.2
theorem rc10_7 {j : Nat} (h : sg_K Yc j 10) : Yc.2.2.2 j 7 = j + 87 := (show ∀ j, j < Yc.1 → Yc.2.1 j = 10 → Yc.2.2.2 j 7 = j + 87 by decide +kernel) j h.1 h.2
theorem rc10_8 {j : Nat} (h : sg_K Yc j 10) : Yc.2.2.2 j 8 = j + 106 := (show ∀ j, j < Yc.1 → Yc.2.1 j = 10 → Yc.2.2.2 j 8 = j + 106 by decide +kernel) j h.1 h.2
theorem rc10_9 {j : Nat} (h : sg_K Yc j 10) : Yc.2.2.2 j 9 = j + 173 := (show ∀ j, j < Yc.1 → Yc.2.1 j = 10 → Yc.2.2.2 j 9 = j + 173 by decide +kernel) j h.1 h.2
theorem rc10_10 {j : Nat} (h : sg_K Yc j 10) : Yc.2.2.2 j 10 = j + 205 := (show ∀ j, j < Yc.1 → Yc.2.1 j = 10 → Yc.2.2.2 j 10 = j + 205 by decide +kernel) j h.1 h.2
theorem rc10_11 {j : Nat} (h : sg_K Yc j 10) : Yc.2.2.2 j 11 = j + 228 := (show ∀ j, j < Yc.1 → Yc.2.1 j = 10 → Yc.2.2.2 j 11 = j + 228 by decide +kernel) j h.1 h.2
theorem rc10_12 {j : Nat} (h : sg_K Yc j 10) : Yc.2.2.2 j 12 = j + 248 := (show ∀ j, j < Yc.1 → Yc.2.1 j = 10 → Yc.2.2.2 j 12 = j + 248 by decide +kernel) j h.1 h.2
theorem rc11_1 {j : Nat} (h : sg_K Yr j 11) : Yr.2.2.2 j 1 = j + 1 := (show ∀ j, j < Yr.1 → Yr.2.1 j = 11 → Yr.2.2.2 j 1 = j + 1 by decide +kernel) j h.1 h.2
theorem lc11_1 {j : Nat} (h : sg_K Yr j 11) : Yr.2.2.1 (j + 1) = 40 := (show ∀ j, j < Yr.1 → Yr.2.1 j = 11 → Yr.2.2.1 (j + 1) = 40 by decide +kernel) j h.1 h.2
theorem rc11_2 {j : Nat} (h : sg_K Yr j 11) : Yr.2.2.2 j 2 = j + 2 := (show ∀ j, j < Yr.1 → Yr.2.1 j = 11 → Yr.2.2.2 j 2 = j + 2 by decide +kernel) j h.1 h.2
theorem lc11_2 {j : Nat} (h : sg_K Yr j 11) : Yr.2.2.1 (j + 2) = 40 := (show ∀ j, j < Yr.1 → Yr.2.1 j = 11 → Yr.2.2.1 (j + 2) = 40 by decide +kernel) j h.1 h.2
theorem rc11_3 {j : Nat} (h : sg_K Yr j 11) : Yr.2.2.2 j 3 = j + 3 := (show ∀ j, j < Yr.1 → Yr.2.1 j = 11 → Yr.2.2.2 j 3 = j + 3 by decide +kernel) j h.1 h.2
theorem lc11_3 {j : Nat} (h : sg_K Yr j 11) : Yr.2.2.1 (j + 3) = 840 := (show ∀ j, j < Yr.1 → Yr.2.1 j = 11 → Yr.2.2.1 (j + 3) = 840 by decide +kernel) j h.1 h.2
theorem rc11_5 {j : Nat} (h : sg_K Yr j 11) : Yr.2.2.2 j 5 = j + 4 := (show ∀ j, j < Yr.1 → Yr.2.1 j = 11 → Yr.2.2.2 j 5 = j + 4 by decide +kernel) j h.1 h.2
theorem lc11_5 {j : Nat} (h : sg_K Yr j 11) : Yr.2.2.1 (j + 4) = 2643 := (show ∀ j, j < Yr.1 → Yr.2.1 j = 11 → Yr.2.2.1 (j + 4) = 2643 by decide +kernel) j h.1 h.2
theorem rc11_6 {j : Nat} (h : sg_K Yr j 11) : Yr.2.2.2 j 6 = j + 5 := (show ∀ j, j < Yr.1 → Yr.2.1 j = 11 → Yr.2.2.2 j 6 = j + 5 by decide +kernel) j h.1 h.2
theorem lc11_6 {j : Nat} (h : sg_K Yr j 11) : Yr.2.2.1 (j + 5) = 3 := (show ∀ j, j < Yr.1 → Yr.2.1 j = 11 → Yr.2.2.1 (j + 5) = 3 by decide +kernel) j h.1 h.2
theorem rc11_7 {j : Nat} (h : sg_K Yr j 11) : Yr.2.2.2 j 7 = j + 6 := (show ∀ j, j < Yr.1 → Yr.2.1 j = 11 → Yr.2.2.2 j 7 = j + 6 by decide +kernel) j h.1 h.2
theorem lc11_7 {j : Nat} (h : sg_K Yr j 11) : Yr.2.2.1 (j + 6) = 24 := (show ∀ j, j < Yr.1 → Yr.2.1 j = 11 → Yr.2.2.1 (j + 6) = 24 by decide +kernel) j h.1 h.2
theorem rc11_9 {j : Nat} (h : sg_K Yr j 11) : Yr.2.2.2 j 9 = j + 7 := (show ∀ j, j < Yr.1 → Yr.2.1 j = 11 → Yr.2.2.2 j 9 = j + 7 by decide +kernel) j h.1 h.2
theorem lc11_9 {j : Nat} (h : sg_K Yr j 11) : Yr.2.2.1 (j + 7) = 700 := (show ∀ j, j < Yr.1 → Yr.2.1 j = 11 → Yr.2.2.1 (j + 7) = 700 by decide +kernel) j h.1 h.2
theorem rc11_11 {j : Nat} (h : sg_K Yr j 11) : Yr.2.2.2 j 11 = j + 8 := (show ∀ j, j < Yr.1 → Yr.2.1 j = 11 → Yr.2.2.2 j 11 = j + 8 by decide +kernel) j h.1 h.2
theorem lc11_11 {j : Nat} (h : sg_K Yr j 11) : Yr.2.2.1 (j + 8) = 5 := (show ∀ j, j < Yr.1 → Yr.2.1 j = 11 → Yr.2.2.1 (j + 8) = 5 by decide +kernel) j h.1 h.2
theorem rc11_22 {j : Nat} (h : sg_K Yr j 11) : Yr.2.2.2 j 22 = j + 9 := (show ∀ j, j < Yr.1 → Yr.2.1 j = 11 → Yr.2.2.2 j 22 = j + 9 by decide +kernel) j h.1 h.2
theorem lc11_22 {j : Nat} (h : sg_K Yr j 11) : Yr.2.2.1 (j + 9) = 9 := (show ∀ j, j < Yr.1 → Yr.2.1 j = 11 → Yr.2.2.1 (j + 9) = 9 by decide +kernel) j h.1 h.2
theorem rc11_23 {j : Nat} (h : sg_K Yr j 11) : Yr.2.2.2 j 23 = j + 10 := (show ∀ j, j < Yr.1 → Yr.2.1 j = 11 → Yr.2.2.2 j 23 = j + 10 by decide +kernel) j h.1 h.2
theorem lc11_23 {j : Nat} (h : sg_K Yr j 11) : Yr.2.2.1 (j + 10) = 9 := (show ∀ j, j < Yr.1 → Yr.2.1 j = 11 → Yr.2.2.1 (j + 10) = 9 by decide +kernel) j h.1 h.2
theorem rc11_25 {j : Nat} (h : sg_K Yr j 11) : Yr.2.2.2 j 25 = j + 11 := (show ∀ j, j < Yr.1 → Yr.2.1 j = 11 → Yr.2.2.2 j 25 = j + 11 by decide +kernel) j h.1 h.2
theorem lc11_25 {j : Nat} (h : sg_K Yr j 11) : Yr.2.2.1 (j + 11) = 162 := (show ∀ j, j < Yr.1 → Yr.2.1 j = 11 → Yr.2.2.1 (j + 11) = 162 by decide +kernel) j h.1 h.2
theorem rc11_27 {j : Nat} (h : sg_K Yr j 11) : Yr.2.2.2 j 27 = j + 12 := (show ∀ j, j < Yr.1 → Yr.2.1 j = 11 → Yr.2.2.2 j 27 = j + 12 by decide +kernel) j h.1 h.2
theorem lc11_27 {j : Nat} (h : sg_K Yr j 11) : Yr.2.2.1 (j + 12) = 9 := (show ∀ j, j < Yr.1 → Yr.2.1 j = 11 → Yr.2.2.1 (j + 12) = 9 by decide +kernel) j h.1 h.2
theorem rc11_28 {j : Nat} (h : sg_K Yr j 11) : Yr.2.2.2 j 28 = j + 13 := (show ∀ j, j < Yr.1 → Yr.2.1 j = 11 → Yr.2.2.2 j 28 = j + 13 by decide +kernel) j h.1 h.2
theorem lc11_28 {j : Nat} (h : sg_K Yr j 11) : Yr.2.2.1 (j + 13) = 9 := (show ∀ j, j < Yr.1 → Yr.2.1 j = 11 → Yr.2.2.1 (j + 13) = 9 by decide +kernel) j h.1 h.2
theorem rc11_29 {j : Nat} (h : sg_K Yr j 11) : Yr.2.2.2 j 29 = j + 14 := (show ∀ j, j < Yr.1 → Yr.2.1 j = 11 → Yr.2.2.2 j 29 = j + 14 by decide +kernel) j h.1 h.2
theorem lc11_29 {j : Nat} (h : sg_K Yr j 11) : Yr.2.2.1 (j + 14) = 4 := (show ∀ j, j < Yr.1 → Yr.2.1 j = 11 → Yr.2.2.1 (j + 14) = 4 by decide +kernel) j h.1 h.2
theorem rc11_30 {j : Nat} (h : sg_K Yr j 11) : Yr.2.2.2 j 30 = j + 15 := (show ∀ j, j < Yr.1 → Yr.2.1 j = 11 → Yr.2.2.2 j 30 = j + 15 by decide +kernel) j h.1 h.2
theorem lc11_30 {j : Nat} (h : sg_K Yr j 11) : Yr.2.2.1 (j + 15) = 40 := (show ∀ j, j < Yr.1 → Yr.2.1 j = 11 → Yr.2.2.1 (j + 15) = 40 by decide +kernel) j h.1 h.2
theorem rc11_34 {j : Nat} (h : sg_K Yr j 11) : Yr.2.2.2 j 34 = j + 16 := (show ∀ j, j < Yr.1 → Yr.2.1 j = 11 → Yr.2.2.2 j 34 = j + 16 by decide +kernel) j h.1 h.2
theorem lc11_34 {j : Nat} (h : sg_K Yr j 11) : Yr.2.2.1 (j + 16) = 20 := (show ∀ j, j < Yr.1 → Yr.2.1 j = 11 → Yr.2.2.1 (j + 16) = 20 by decide +kernel) j h.1 h.2
theorem rc11_36 {j : Nat} (h : sg_K Yr j 11) : Yr.2.2.2 j 36 = j + 17 := (show ∀ j, j < Yr.1 → Yr.2.1 j = 11 → Yr.2.2.2 j 36 = j + 17 by decide +kernel) j h.1 h.2
theorem lc11_36 {j : Nat} (h : sg_K Yr j 11) : Yr.2.2.1 (j + 17) = 3 := (show ∀ j, j < Yr.1 → Yr.2.1 j = 11 → Yr.2.2.1 (j + 17) = 3 by decide +kernel) j h.1 h.2
/-! shapes of grids: columns, rows; their straps in order -/
def stp (c r : Nat) : List (Nat × Nat) := (List.range (c * r)).flatMap (fun v => (if v % c + 1 < c then [(v, v + 1)] else []) ++ (if v / c + 1 < r then [(v, v + c)] else []))
def ns (c r : Nat) : Nat := (stp c r).length
def sA (c r s : Nat) : Nat := ((stp c r).getD s (0, 0)).1
def sB (c r s : Nat) : Nat := ((stp c r).getD s (0, 0)).2
def shp (c r : Nat) : Prop := 1 ≤ c ∧ 1 ≤ r ∧ c * r ≤ 9
theorem shp_le {c r : Nat} (h : shp c r) : c < 10 ∧ r < 10 := by
  obtain ⟨h1, h2, h3⟩ := h
  have a := Nat.mul_le_mul_left c h2
  have b := Nat.mul_le_mul_right r h1
  omega
theorem shp_all {P : Nat → Nat → Prop} (h : ∀ c, c < 10 → ∀ r, r < 10 → (1 ≤ c ∧ 1 ≤ r ∧ c * r ≤ 9) → P c r) {c r : Nat} (hs : shp c r) : P c r := h c (shp_le hs).1 r (shp_le hs).2 hs
theorem ns_le {c r : Nat} (h : shp c r) : ns c r ≤ 12 := shp_all (P := fun c r => ns c r ≤ 12) (by decide +kernel) h
theorem sAB {c r s : Nat} (h : shp c r) (hs : s < ns c r) : sA c r s < sB c r s ∧ sB c r s < c * r := shp_all (P := fun c r => ∀ s, s < ns c r → sA c r s < sB c r s ∧ sB c r s < c * r) (by decide +kernel) h s hs
/-! what is reached from a set (bits), by the straps that are there -/
def bi (v : Nat) : Int32 := (1 : Int32) <<< (nI v &&& 31)
def cl1 (c r : Nat) (w : Nat → Nat) (x : Int32) (s : Nat) : Int32 := if w s = 0 then x else if (bt x (sA c r s) || bt x (sB c r s)) = true then x ||| (bi (sA c r s) ||| bi (sB c r s)) else x
def clp (c r : Nat) (w : Nat → Nat) : Nat → Int32 → Int32
  | 0, x => x
  | k + 1, x => cl1 c r w (clp c r w k x) k
def clo (c r : Nat) (w : Nat → Nat) : Nat → Int32 → Int32
  | 0, x => x
  | j + 1, x => clp c r w (ns c r) (clo c r w j x)
theorem clo_stable {c r : Nat} {w : Nat → Nat} {j : Nat} {x : Int32} (h : clp c r w (ns c r) (clo c r w j x) = clo c r w j x) : ∀ k, clo c r w (j + k) x = clo c r w j x := by
  intro k
  induction k with
  | zero => rfl
  | succ k ih =>
    show clp c r w (ns c r) (clo c r w (j + k) x) = _
    rw [ih, h]
theorem bt_bi {v i : Nat} (hv : v < 32) (hi : i < 32) : bt (bi v) i = decide (i = v) := bt_sh hv hi
/-- both ends' bits against a set: none of them is in -/
theorem bi_and {x : Int32} {a b : Nat} (ha : a < 32) (hb : b < 32) : x &&& (bi a ||| bi b) = 0 ↔ (bt x a || bt x b) = false := by
  constructor
  · intro h
    have e : ∀ i, i < 32 → bt (x &&& (bi a ||| bi b)) i = false := fun i _ => by rw [h, b_0]
    have h1 := e a ha
    have h2 := e b hb
    rw [b_and, b_or, bt_bi ha ha, bt_bi hb ha] at h1
    rw [b_and, b_or, bt_bi ha hb, bt_bi hb hb] at h2
    simp at h1 h2
    simp [h1, h2]
  · intro h
    apply b_ext
    intro i hi
    rw [b_and, b_or, bt_bi ha hi, bt_bi hb hi, b_0]
    simp at h
    by_cases e1 : i = a
    · subst e1; simp [h.1]
    · by_cases e2 : i = b
      · subst e2; simp [h.2]
      · simp [e1, e2]
