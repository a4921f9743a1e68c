theorem sh_0 : on_sh 0 = (0, 11) := by decide +kernel
theorem ltc_0 {n : Nat} (h : 100 ≤ n) : 0 < n := Nat.lt_of_lt_of_le (by decide) h
theorem sh_1 : on_sh 1 = (2, 1400) := by decide +kernel
theorem ltc_1 {n : Nat} (h : 100 ≤ n) : 1 < n := Nat.lt_of_lt_of_le (by decide) h
theorem sh_2 : on_sh 2 = (0, 9) := by decide +kernel
theorem ltc_2 {n : Nat} (h : 100 ≤ n) : 2 < n := Nat.lt_of_lt_of_le (by decide) h
theorem sh_3 : on_sh 3 = (1, 9) := by decide +kernel
theorem ltc_3 {n : Nat} (h : 100 ≤ n) : 3 < n := Nat.lt_of_lt_of_le (by decide) h
theorem sh_4 : on_sh 4 = (1, 9) := by decide +kernel
theorem ltc_4 {n : Nat} (h : 100 ≤ n) : 4 < n := Nat.lt_of_lt_of_le (by decide) h
theorem sh_5 : on_sh 5 = (1, 9) := by decide +kernel
theorem ltc_5 {n : Nat} (h : 100 ≤ n) : 5 < n := Nat.lt_of_lt_of_le (by decide) h
theorem sh_6 : on_sh 6 = (1, 9) := by decide +kernel
theorem ltc_6 {n : Nat} (h : 100 ≤ n) : 6 < n := Nat.lt_of_lt_of_le (by decide) h
theorem sh_7 : on_sh 7 = (1, 9) := by decide +kernel
theorem ltc_7 {n : Nat} (h : 100 ≤ n) : 7 < n := Nat.lt_of_lt_of_le (by decide) h
theorem sh_8 : on_sh 8 = (1, 16) := by decide +kernel
theorem ltc_8 {n : Nat} (h : 100 ≤ n) : 8 < n := Nat.lt_of_lt_of_le (by decide) h
theorem sh_9 : on_sh 9 = (1, 16) := by decide +kernel
theorem ltc_9 {n : Nat} (h : 100 ≤ n) : 9 < n := Nat.lt_of_lt_of_le (by decide) h
theorem sh_10 : on_sh 10 = (0, 3) := by decide +kernel
theorem ltc_10 {n : Nat} (h : 100 ≤ n) : 10 < n := Nat.lt_of_lt_of_le (by decide) h
theorem sh_11 : on_sh 11 = (1, 9) := by decide +kernel
theorem ltc_11 {n : Nat} (h : 100 ≤ n) : 11 < n := Nat.lt_of_lt_of_le (by decide) h
theorem sh_12 : on_sh 12 = (1, 9) := by decide +kernel
theorem ltc_12 {n : Nat} (h : 100 ≤ n) : 12 < n := Nat.lt_of_lt_of_le (by decide) h
theorem sh_13 : on_sh 13 = (1, 9) := by decide +kernel
theorem ltc_13 {n : Nat} (h : 100 ≤ n) : 13 < n := Nat.lt_of_lt_of_le (by decide) h
theorem sh_14 : on_sh 14 = (1, 9) := by decide +kernel
theorem ltc_14 {n : Nat} (h : 100 ≤ n) : 14 < n := Nat.lt_of_lt_of_le (by decide) h
theorem sh_15 : on_sh 15 = (1, 81) := by decide +kernel
theorem ltc_15 {n : Nat} (h : 100 ≤ n) : 15 < n := Nat.lt_of_lt_of_le (by decide) h
theorem sh_16 : on_sh 16 = (0, 4) := by decide +kernel
theorem ltc_16 {n : Nat} (h : 100 ≤ n) : 16 < n := Nat.lt_of_lt_of_le (by decide) h
theorem sh_17 : on_sh 17 = (1, 2) := by decide +kernel
theorem ltc_17 {n : Nat} (h : 100 ≤ n) : 17 < n := Nat.lt_of_lt_of_le (by decide) h
theorem sh_18 : on_sh 18 = (1, 2) := by decide +kernel
theorem ltc_18 {n : Nat} (h : 100 ≤ n) : 18 < n := Nat.lt_of_lt_of_le (by decide) h
theorem sh_19 : on_sh 19 = (1, 2) := by decide +kernel
theorem ltc_19 {n : Nat} (h : 100 ≤ n) : 19 < n := Nat.lt_of_lt_of_le (by decide) h
theorem sh_20 : on_sh 20 = (1, 8) := by decide +kernel
theorem ltc_20 {n : Nat} (h : 100 ≤ n) : 20 < n := Nat.lt_of_lt_of_le (by decide) h
theorem sh_21 : on_sh 21 = (1, 8) := by decide +kernel
theorem ltc_21 {n : Nat} (h : 100 ≤ n) : 21 < n := Nat.lt_of_lt_of_le (by decide) h
theorem sh_22 : on_sh 22 = (0, 2) := by decide +kernel
theorem ltc_22 {n : Nat} (h : 100 ≤ n) : 22 < n := Nat.lt_of_lt_of_le (by decide) h
theorem sh_23 : on_sh 23 = (1, 60) := by decide +kernel
theorem ltc_23 {n : Nat} (h : 100 ≤ n) : 23 < n := Nat.lt_of_lt_of_le (by decide) h
theorem sh_24 : on_sh 24 = (1, 60) := by decide +kernel
theorem ltc_24 {n : Nat} (h : 100 ≤ n) : 24 < n := Nat.lt_of_lt_of_le (by decide) h
theorem sh_25 : on_sh 25 = (1, 240) := by decide +kernel
theorem ltc_25 {n : Nat} (h : 100 ≤ n) : 25 < n := Nat.lt_of_lt_of_le (by decide) h
theorem sh_26 : on_sh 26 = (1, 8) := by decide +kernel
theorem ltc_26 {n : Nat} (h : 100 ≤ n) : 26 < n := Nat.lt_of_lt_of_le (by decide) h
theorem sh_27 : on_sh 27 = (0, 9) := by decide +kernel
theorem ltc_27 {n : Nat} (h : 100 ≤ n) : 27 < n := Nat.lt_of_lt_of_le (by decide) h
theorem sh_28 : on_sh 28 = (1, 9) := by decide +kernel
theorem ltc_28 {n : Nat} (h : 100 ≤ n) : 28 < n := Nat.lt_of_lt_of_le (by decide) h
theorem sh_29 : on_sh 29 = (1, 9) := by decide +kernel
theorem ltc_29 {n : Nat} (h : 100 ≤ n) : 29 < n := Nat.lt_of_lt_of_le (by decide) h
theorem sh_30 : on_sh 30 = (1, 9) := by decide +kernel
theorem ltc_30 {n : Nat} (h : 100 ≤ n) : 30 < n := Nat.lt_of_lt_of_le (by decide) h
theorem sh_31 : on_sh 31 = (1, 9) := by decide +kernel
theorem ltc_31 {n : Nat} (h : 100 ≤ n) : 31 < n := Nat.lt_of_lt_of_le (by decide) h
theorem sh_32 : on_sh 32 = (1, 9) := by decide +kernel
theorem ltc_32 {n : Nat} (h : 100 ≤ n) : 32 < n := Nat.lt_of_lt_of_le (by decide) h
theorem sh_33 : on_sh 33 = (1, 16) := by decide +kernel
theorem ltc_33 {n : Nat} (h : 100 ≤ n) : 33 < n := Nat.lt_of_lt_of_le (by decide) h
theorem sh_34 : on_sh 34 = (1, 16) := by decide +kernel
theorem ltc_34 {n : Nat} (h : 100 ≤ n) : 34 < n := Nat.lt_of_lt_of_le (by decide) h
theorem sh_35 : on_sh 35 = (0, 3) := by decide +kernel
theorem ltc_35 {n : Nat} (h : 100 ≤ n) : 35 < n := Nat.lt_of_lt_of_le (by decide) h
theorem sh_36 : on_sh 36 = (1, 9) := by decide +kernel
theorem ltc_36 {n : Nat} (h : 100 ≤ n) : 36 < n := Nat.lt_of_lt_of_le (by decide) h
theorem sh_37 : on_sh 37 = (1, 9) := by decide +kernel
theorem ltc_37 {n : Nat} (h : 100 ≤ n) : 37 < n := Nat.lt_of_lt_of_le (by decide) h
theorem sh_38 : on_sh 38 = (1, 9) := by decide +kernel
theorem ltc_38 {n : Nat} (h : 100 ≤ n) : 38 < n := Nat.lt_of_lt_of_le (by decide) h
theorem sh_39 : on_sh 39 = (1, 9) := by decide +kernel
theorem ltc_39 {n : Nat} (h : 100 ≤ n) : 39 < n := Nat.lt_of_lt_of_le (by decide) h
theorem sh_40 : on_sh 40 = (1, 81) := by decide +kernel
theorem ltc_40 {n : Nat} (h : 100 ≤ n) : 40 < n := Nat.lt_of_lt_of_le (by decide) h
theorem sh_41 : on_sh 41 = (0, 4) := by decide +kernel
theorem ltc_41 {n : Nat} (h : 100 ≤ n) : 41 < n := Nat.lt_of_lt_of_le (by decide) h
theorem sh_42 : on_sh 42 = (1, 2) := by decide +kernel
theorem ltc_42 {n : Nat} (h : 100 ≤ n) : 42 < n := Nat.lt_of_lt_of_le (by decide) h
theorem sh_43 : on_sh 43 = (1, 2) := by decide +kernel
theorem ltc_43 {n : Nat} (h : 100 ≤ n) : 43 < n := Nat.lt_of_lt_of_le (by decide) h
theorem sh_44 : on_sh 44 = (1, 2) := by decide +kernel
theorem ltc_44 {n : Nat} (h : 100 ≤ n) : 44 < n := Nat.lt_of_lt_of_le (by decide) h
theorem sh_45 : on_sh 45 = (1, 8) := by decide +kernel
theorem ltc_45 {n : Nat} (h : 100 ≤ n) : 45 < n := Nat.lt_of_lt_of_le (by decide) h
theorem sh_46 : on_sh 46 = (1, 8) := by decide +kernel
theorem ltc_46 {n : Nat} (h : 100 ≤ n) : 46 < n := Nat.lt_of_lt_of_le (by decide) h
theorem sh_47 : on_sh 47 = (0, 2) := by decide +kernel
theorem ltc_47 {n : Nat} (h : 100 ≤ n) : 47 < n := Nat.lt_of_lt_of_le (by decide) h
theorem sh_48 : on_sh 48 = (1, 60) := by decide +kernel
theorem ltc_48 {n : Nat} (h : 100 ≤ n) : 48 < n := Nat.lt_of_lt_of_le (by decide) h
theorem sh_49 : on_sh 49 = (1, 60) := by decide +kernel
theorem ltc_49 {n : Nat} (h : 100 ≤ n) : 49 < n := Nat.lt_of_lt_of_le (by decide) h
theorem sh_50 : on_sh 50 = (1, 240) := by decide +kernel
theorem ltc_50 {n : Nat} (h : 100 ≤ n) : 50 < n := Nat.lt_of_lt_of_le (by decide) h
theorem sh_51 : on_sh 51 = (1, 8) := by decide +kernel
theorem ltc_51 {n : Nat} (h : 100 ≤ n) : 51 < n := Nat.lt_of_lt_of_le (by decide) h
theorem sh_52 : on_sh 52 = (0, 6) := by decide +kernel
theorem ltc_52 {n : Nat} (h : 100 ≤ n) : 52 < n := Nat.lt_of_lt_of_le (by decide) h
theorem sh_53 : on_sh 53 = (5, 3) := by decide +kernel
theorem ltc_53 {n : Nat} (h : 100 ≤ n) : 53 < n := Nat.lt_of_lt_of_le (by decide) h
theorem sh_54 : on_sh 54 = (6, 4) := by decide +kernel
theorem ltc_54 {n : Nat} (h : 100 ≤ n) : 54 < n := Nat.lt_of_lt_of_le (by decide) h
theorem sh_55 : on_sh 55 = (0, 7) := by decide +kernel
theorem ltc_55 {n : Nat} (h : 100 ≤ n) : 55 < n := Nat.lt_of_lt_of_le (by decide) h
theorem sh_56 : on_sh 56 = (1, 378) := by decide +kernel
theorem ltc_56 {n : Nat} (h : 100 ≤ n) : 56 < n := Nat.lt_of_lt_of_le (by decide) h
theorem sh_57 : on_sh 57 = (1, 9) := by decide +kernel
theorem ltc_57 {n : Nat} (h : 100 ≤ n) : 57 < n := Nat.lt_of_lt_of_le (by decide) h
theorem sh_58 : on_sh 58 = (1, 16) := by decide +kernel
theorem ltc_58 {n : Nat} (h : 100 ≤ n) : 58 < n := Nat.lt_of_lt_of_le (by decide) h
theorem sh_59 : on_sh 59 = (0, 1) := by decide +kernel
theorem ltc_59 {n : Nat} (h : 100 ≤ n) : 59 < n := Nat.lt_of_lt_of_le (by decide) h
theorem sh_60 : on_sh 60 = (1, 1024) := by decide +kernel
theorem ltc_60 {n : Nat} (h : 100 ≤ n) : 60 < n := Nat.lt_of_lt_of_le (by decide) h
theorem sh_61 : on_sh 61 = (1, 1024) := by decide +kernel
theorem ltc_61 {n : Nat} (h : 100 ≤ n) : 61 < n := Nat.lt_of_lt_of_le (by decide) h
theorem sh_62 : on_sh 62 = (1, 1024) := by decide +kernel
theorem ltc_62 {n : Nat} (h : 100 ≤ n) : 62 < n := Nat.lt_of_lt_of_le (by decide) h
theorem sh_63 : on_sh 63 = (0, 0) := by decide +kernel
theorem ltc_63 {n : Nat} (h : 100 ≤ n) : 63 < n := Nat.lt_of_lt_of_le (by decide) h
theorem sh_64 : on_sh 64 = (1, 16) := by decide +kernel
theorem ltc_64 {n : Nat} (h : 100 ≤ n) : 64 < n := Nat.lt_of_lt_of_le (by decide) h
theorem sh_65 : on_sh 65 = (0, 5) := by decide +kernel
theorem ltc_65 {n : Nat} (h : 100 ≤ n) : 65 < n := Nat.lt_of_lt_of_le (by decide) h
theorem sh_66 : on_sh 66 = (1, 8) := by decide +kernel
theorem ltc_66 {n : Nat} (h : 100 ≤ n) : 66 < n := Nat.lt_of_lt_of_le (by decide) h
theorem sh_67 : on_sh 67 = (0, 10) := by decide +kernel
theorem ltc_67 {n : Nat} (h : 100 ≤ n) : 67 < n := Nat.lt_of_lt_of_le (by decide) h
theorem sh_68 : on_sh 68 = (1, 4) := by decide +kernel
theorem ltc_68 {n : Nat} (h : 100 ≤ n) : 68 < n := Nat.lt_of_lt_of_le (by decide) h
theorem sh_69 : on_sh 69 = (0, 8) := by decide +kernel
theorem ltc_69 {n : Nat} (h : 100 ≤ n) : 69 < n := Nat.lt_of_lt_of_le (by decide) h
theorem sh_70 : on_sh 70 = (3, 60) := by decide +kernel
theorem ltc_70 {n : Nat} (h : 100 ≤ n) : 70 < n := Nat.lt_of_lt_of_le (by decide) h
theorem sh_71 : on_sh 71 = (0, 8) := by decide +kernel
theorem ltc_71 {n : Nat} (h : 100 ≤ n) : 71 < n := Nat.lt_of_lt_of_le (by decide) h
theorem sh_72 : on_sh 72 = (3, 60) := by decide +kernel
theorem ltc_72 {n : Nat} (h : 100 ≤ n) : 72 < n := Nat.lt_of_lt_of_le (by decide) h
theorem sh_73 : on_sh 73 = (0, 8) := by decide +kernel
theorem ltc_73 {n : Nat} (h : 100 ≤ n) : 73 < n := Nat.lt_of_lt_of_le (by decide) h
theorem sh_74 : on_sh 74 = (3, 60) := by decide +kernel
theorem ltc_74 {n : Nat} (h : 100 ≤ n) : 74 < n := Nat.lt_of_lt_of_le (by decide) h
theorem sh_75 : on_sh 75 = (0, 8) := by decide +kernel
theorem ltc_75 {n : Nat} (h : 100 ≤ n) : 75 < n := Nat.lt_of_lt_of_le (by decide) h
theorem sh_76 : on_sh 76 = (3, 60) := by decide +kernel
theorem ltc_76 {n : Nat} (h : 100 ≤ n) : 76 < n := Nat.lt_of_lt_of_le (by decide) h
theorem sh_77 : on_sh 77 = (0, 12) := by decide +kernel
theorem ltc_77 {n : Nat} (h : 100 ≤ n) : 77 < n := Nat.lt_of_lt_of_le (by decide) h
theorem sh_78 : on_sh 78 = (1, 687) := by decide +kernel
theorem ltc_78 {n : Nat} (h : 100 ≤ n) : 78 < n := Nat.lt_of_lt_of_le (by decide) h
theorem sh_79 : on_sh 79 = (1, 2061) := by decide +kernel
theorem ltc_79 {n : Nat} (h : 100 ≤ n) : 79 < n := Nat.lt_of_lt_of_le (by decide) h
theorem sh_80 : on_sh 80 = (4, 3) := by decide +kernel
theorem ltc_80 {n : Nat} (h : 100 ≤ n) : 80 < n := Nat.lt_of_lt_of_le (by decide) h
theorem sh_81 : on_sh 81 = (2, 1400) := by decide +kernel
theorem ltc_81 {n : Nat} (h : 100 ≤ n) : 81 < n := Nat.lt_of_lt_of_le (by decide) h
theorem sh_82 : on_sh 82 = (1, 5) := by decide +kernel
theorem ltc_82 {n : Nat} (h : 100 ≤ n) : 82 < n := Nat.lt_of_lt_of_le (by decide) h
theorem sh_83 : on_sh 83 = (1, 687) := by decide +kernel
theorem ltc_83 {n : Nat} (h : 100 ≤ n) : 83 < n := Nat.lt_of_lt_of_le (by decide) h
theorem sh_84 : on_sh 84 = (1, 4) := by decide +kernel
theorem ltc_84 {n : Nat} (h : 100 ≤ n) : 84 < n := Nat.lt_of_lt_of_le (by decide) h
theorem sh_85 : on_sh 85 = (1, 8) := by decide +kernel
theorem ltc_85 {n : Nat} (h : 100 ≤ n) : 85 < n := Nat.lt_of_lt_of_le (by decide) h
theorem sh_86 : on_sh 86 = (1, 4) := by decide +kernel
theorem ltc_86 {n : Nat} (h : 100 ≤ n) : 86 < n := Nat.lt_of_lt_of_le (by decide) h
theorem sh_87 : on_sh 87 = (1, 6200) := by decide +kernel
theorem ltc_87 {n : Nat} (h : 100 ≤ n) : 87 < n := Nat.lt_of_lt_of_le (by decide) h
theorem sh_88 : on_sh 88 = (1, 24800) := by decide +kernel
theorem ltc_88 {n : Nat} (h : 100 ≤ n) : 88 < n := Nat.lt_of_lt_of_le (by decide) h
theorem sh_89 : on_sh 89 = (1, 6200) := by decide +kernel
theorem ltc_89 {n : Nat} (h : 100 ≤ n) : 89 < n := Nat.lt_of_lt_of_le (by decide) h
theorem sh_90 : on_sh 90 = (1, 2) := by decide +kernel
theorem ltc_90 {n : Nat} (h : 100 ≤ n) : 90 < n := Nat.lt_of_lt_of_le (by decide) h
theorem sh_91 : on_sh 91 = (1, 2) := by decide +kernel
theorem ltc_91 {n : Nat} (h : 100 ≤ n) : 91 < n := Nat.lt_of_lt_of_le (by decide) h
theorem sh_92 : on_sh 92 = (1, 4) := by decide +kernel
theorem ltc_92 {n : Nat} (h : 100 ≤ n) : 92 < n := Nat.lt_of_lt_of_le (by decide) h
theorem sh_93 : on_sh 93 = (1, 4) := by decide +kernel
theorem ltc_93 {n : Nat} (h : 100 ≤ n) : 93 < n := Nat.lt_of_lt_of_le (by decide) h
theorem sh_94 : on_sh 94 = (1, 2) := by decide +kernel
theorem ltc_94 {n : Nat} (h : 100 ≤ n) : 94 < n := Nat.lt_of_lt_of_le (by decide) h
theorem sh_95 : on_sh 95 = (1, 16) := by decide +kernel
theorem ltc_95 {n : Nat} (h : 100 ≤ n) : 95 < n := Nat.lt_of_lt_of_le (by decide) h
theorem sh_96 : on_sh 96 = (1, 4) := by decide +kernel
theorem ltc_96 {n : Nat} (h : 100 ≤ n) : 96 < n := Nat.lt_of_lt_of_le (by decide) h
theorem sh_97 : on_sh 97 = (1, 4) := by decide +kernel
theorem ltc_97 {n : Nat} (h : 100 ≤ n) : 97 < n := Nat.lt_of_lt_of_le (by decide) h
theorem sh_98 : on_sh 98 = (3, 240) := by decide +kernel
theorem ltc_98 {n : Nat} (h : 100 ≤ n) : 98 < n := Nat.lt_of_lt_of_le (by decide) h
theorem sh_99 : on_sh 99 = (3, 60) := by decide +kernel
theorem ltc_99 {n : Nat} (h : 100 ≤ n) : 99 < n := Nat.lt_of_lt_of_le (by decide) h
theorem shS_0 {n b : Nat} (hb : on_Sb n b) : on_sh (b) = (0, 9) := on_shb hb 0 (by decide)
theorem ltS_0 {n b : Nat} (hb : on_Sb n b) : b < n := by have := hb.1; omega
theorem shS_1 {n b : Nat} (hb : on_Sb n b) : on_sh (b + 1) = (1, 9) := on_shb hb 1 (by decide)
theorem ltS_1 {n b : Nat} (hb : on_Sb n b) : b + 1 < n := by have := hb.1; omega
theorem shS_2 {n b : Nat} (hb : on_Sb n b) : on_sh (b + 2) = (1, 9) := on_shb hb 2 (by decide)
theorem ltS_2 {n b : Nat} (hb : on_Sb n b) : b + 2 < n := by have := hb.1; omega
theorem shS_3 {n b : Nat} (hb : on_Sb n b) : on_sh (b + 3) = (1, 9) := on_shb hb 3 (by decide)
theorem ltS_3 {n b : Nat} (hb : on_Sb n b) : b + 3 < n := by have := hb.1; omega
theorem shS_4 {n b : Nat} (hb : on_Sb n b) : on_sh (b + 4) = (1, 9) := on_shb hb 4 (by decide)
theorem ltS_4 {n b : Nat} (hb : on_Sb n b) : b + 4 < n := by have := hb.1; omega
theorem shS_5 {n b : Nat} (hb : on_Sb n b) : on_sh (b + 5) = (1, 9) := on_shb hb 5 (by decide)
theorem ltS_5 {n b : Nat} (hb : on_Sb n b) : b + 5 < n := by have := hb.1; omega
theorem shS_6 {n b : Nat} (hb : on_Sb n b) : on_sh (b + 6) = (1, 16) := on_shb hb 6 (by decide)
theorem ltS_6 {n b : Nat} (hb : on_Sb n b) : b + 6 < n := by have := hb.1; omega
theorem shS_7 {n b : Nat} (hb : on_Sb n b) : on_sh (b + 7) = (1, 16) := on_shb hb 7 (by decide)
theorem ltS_7 {n b : Nat} (hb : on_Sb n b) : b + 7 < n := by have := hb.1; omega
theorem shS_8 {n b : Nat} (hb : on_Sb n b) : on_sh (b + 8) = (0, 3) := on_shb hb 8 (by decide)
theorem ltS_8 {n b : Nat} (hb : on_Sb n b) : b + 8 < n := by have := hb.1; omega
theorem shS_9 {n b : Nat} (hb : on_Sb n b) : on_sh (b + 9) = (1, 9) := on_shb hb 9 (by decide)
theorem ltS_9 {n b : Nat} (hb : on_Sb n b) : b + 9 < n := by have := hb.1; omega
theorem shS_10 {n b : Nat} (hb : on_Sb n b) : on_sh (b + 10) = (1, 9) := on_shb hb 10 (by decide)
theorem ltS_10 {n b : Nat} (hb : on_Sb n b) : b + 10 < n := by have := hb.1; omega
theorem shS_11 {n b : Nat} (hb : on_Sb n b) : on_sh (b + 11) = (1, 9) := on_shb hb 11 (by decide)
theorem ltS_11 {n b : Nat} (hb : on_Sb n b) : b + 11 < n := by have := hb.1; omega
theorem shS_12 {n b : Nat} (hb : on_Sb n b) : on_sh (b + 12) = (1, 9) := on_shb hb 12 (by decide)
theorem ltS_12 {n b : Nat} (hb : on_Sb n b) : b + 12 < n := by have := hb.1; omega
theorem shS_13 {n b : Nat} (hb : on_Sb n b) : on_sh (b + 13) = (1, 81) := on_shb hb 13 (by decide)
theorem ltS_13 {n b : Nat} (hb : on_Sb n b) : b + 13 < n := by have := hb.1; omega
theorem shS_14 {n b : Nat} (hb : on_Sb n b) : on_sh (b + 14) = (0, 4) := on_shb hb 14 (by decide)
theorem ltS_14 {n b : Nat} (hb : on_Sb n b) : b + 14 < n := by have := hb.1; omega
theorem shS_15 {n b : Nat} (hb : on_Sb n b) : on_sh (b + 15) = (1, 2) := on_shb hb 15 (by decide)
theorem ltS_15 {n b : Nat} (hb : on_Sb n b) : b + 15 < n := by have := hb.1; omega
theorem shS_16 {n b : Nat} (hb : on_Sb n b) : on_sh (b + 16) = (1, 2) := on_shb hb 16 (by decide)
theorem ltS_16 {n b : Nat} (hb : on_Sb n b) : b + 16 < n := by have := hb.1; omega
theorem shS_17 {n b : Nat} (hb : on_Sb n b) : on_sh (b + 17) = (1, 2) := on_shb hb 17 (by decide)
theorem ltS_17 {n b : Nat} (hb : on_Sb n b) : b + 17 < n := by have := hb.1; omega
theorem shS_18 {n b : Nat} (hb : on_Sb n b) : on_sh (b + 18) = (1, 8) := on_shb hb 18 (by decide)
theorem ltS_18 {n b : Nat} (hb : on_Sb n b) : b + 18 < n := by have := hb.1; omega
theorem shS_19 {n b : Nat} (hb : on_Sb n b) : on_sh (b + 19) = (1, 8) := on_shb hb 19 (by decide)
theorem ltS_19 {n b : Nat} (hb : on_Sb n b) : b + 19 < n := by have := hb.1; omega
theorem shS_20 {n b : Nat} (hb : on_Sb n b) : on_sh (b + 20) = (0, 2) := on_shb hb 20 (by decide)
theorem ltS_20 {n b : Nat} (hb : on_Sb n b) : b + 20 < n := by have := hb.1; omega
theorem shS_21 {n b : Nat} (hb : on_Sb n b) : on_sh (b + 21) = (1, 60) := on_shb hb 21 (by decide)
theorem ltS_21 {n b : Nat} (hb : on_Sb n b) : b + 21 < n := by have := hb.1; omega
theorem shS_22 {n b : Nat} (hb : on_Sb n b) : on_sh (b + 22) = (1, 60) := on_shb hb 22 (by decide)
theorem ltS_22 {n b : Nat} (hb : on_Sb n b) : b + 22 < n := by have := hb.1; omega
theorem shS_23 {n b : Nat} (hb : on_Sb n b) : on_sh (b + 23) = (1, 240) := on_shb hb 23 (by decide)
theorem ltS_23 {n b : Nat} (hb : on_Sb n b) : b + 23 < n := by have := hb.1; omega
theorem shS_24 {n b : Nat} (hb : on_Sb n b) : on_sh (b + 24) = (1, 8) := on_shb hb 24 (by decide)
theorem ltS_24 {n b : Nat} (hb : on_Sb n b) : b + 24 < n := by have := hb.1; omega
theorem on_Sb2 {n : Nat} (h : 100 ≤ n) : on_Sb n 2 := ⟨by omega, Or.inl rfl⟩
theorem on_Sb27 {n : Nat} (h : 100 ≤ n) : on_Sb n 27 := ⟨by omega, Or.inr (Or.inl rfl)⟩
theorem shL_0 {c : Nat} (h : on_Lb c) : on_sh c = (0, 8) := by rcases h with rfl | rfl | rfl | rfl <;> decide
theorem shL_1 {c : Nat} (h : on_Lb c) : on_sh (c + 1) = (3, 60) := by rcases h with rfl | rfl | rfl | rfl <;> decide
theorem ltL_0 {n c : Nat} (hN : 100 ≤ n) (h : on_Lb c) : c < n := by rcases h with rfl | rfl | rfl | rfl <;> omega
theorem ltL_1 {n c : Nat} (hN : 100 ≤ n) (h : on_Lb c) : c + 1 < n := by rcases h with rfl | rfl | rfl | rfl <;> omega
theorem on_Lb_of {j : Nat} (h : j < 4) : on_Lb (69 + 2 * j) := by unfold on_Lb; omega
section ON10
variable {X : on_X} {E : on_E} {cc : ByteArray} {own : String} {rt : Option FieldType} {fr lo nL z n b idx : Nat} {σ : on_S} {x : Option on_O} {pc pc2 : Nat} {lv : List (Option Value)} {rest : List Value} {a : Int}
theorem fg_0_0 (hN : 100 ≤ n) (hw : Cond.fieldLink own idx "OppositeNets$Alarms" "street" "LOppositeNets$Street;" ∈ on_T) (hd : on_dq cc pc 3 pc2 (.getfield idx)) (k : on_G X E cc own rt fr lo nL z n σ x pc2 lv (.ref (z + 2) :: rest)) : on_G X E cc own rt fr lo nL z n σ x pc lv (.ref (z + 63) :: rest) := on_getg 0 0 on_in0 rfl (by decide) hw (ltc_63 hN) sh_63 rfl hd k
theorem fg_0_1 (hN : 100 ≤ n) (hw : Cond.fieldLink own idx "OppositeNets$Alarms" "minutes" "[I" ∈ on_T) (hd : on_dq cc pc 3 pc2 (.getfield idx)) (k : on_G X E cc own rt fr lo nL z n σ x pc2 lv (.ref (z + 64) :: rest)) : on_G X E cc own rt fr lo nL z n σ x pc lv (.ref (z + 63) :: rest) := on_getg 0 1 on_in0 rfl (by decide) hw (ltc_63 hN) sh_63 rfl hd k
theorem fg_1_0 (hN : 100 ≤ n) (hw : Cond.fieldLink own idx "OppositeNets$Guard" "street" "LOppositeNets$Street;" ∈ on_T) (hd : on_dq cc pc 3 pc2 (.getfield idx)) (k : on_G X E cc own rt fr lo nL z n σ x pc2 lv (.ref (z + 2) :: rest)) : on_G X E cc own rt fr lo nL z n σ x pc lv (.ref (z + 59) :: rest) := on_getg 1 0 on_in1 rfl (by decide) hw (ltc_59 hN) sh_59 rfl hd k
theorem fg_1_1 (hN : 100 ≤ n) (hw : Cond.fieldLink own idx "OppositeNets$Guard" "rings" "LOppositeNets$Rings;" ∈ on_T) (hd : on_dq cc pc 3 pc2 (.getfield idx)) (k : on_G X E cc own rt fr lo nL z n σ x pc2 lv (.ref (z + 55) :: rest)) : on_G X E cc own rt fr lo nL z n σ x pc lv (.ref (z + 59) :: rest) := on_getg 1 1 on_in1 rfl (by decide) hw (ltc_59 hN) sh_59 rfl hd k
theorem fg_1_2 (hN : 100 ≤ n) (hw : Cond.fieldLink own idx "OppositeNets$Guard" "count" "[I" ∈ on_T) (hd : on_dq cc pc 3 pc2 (.getfield idx)) (k : on_G X E cc own rt fr lo nL z n σ x pc2 lv (.ref (z + 60) :: rest)) : on_G X E cc own rt fr lo nL z n σ x pc lv (.ref (z + 59) :: rest) := on_getg 1 2 on_in1 rfl (by decide) hw (ltc_59 hN) sh_59 rfl hd k
theorem fg_1_3 (hN : 100 ≤ n) (hw : Cond.fieldLink own idx "OppositeNets$Guard" "least" "[I" ∈ on_T) (hd : on_dq cc pc 3 pc2 (.getfield idx)) (k : on_G X E cc own rt fr lo nL z n σ x pc2 lv (.ref (z + 61) :: rest)) : on_G X E cc own rt fr lo nL z n σ x pc lv (.ref (z + 59) :: rest) := on_getg 1 3 on_in1 rfl (by decide) hw (ltc_59 hN) sh_59 rfl hd k
theorem fg_1_4 (hN : 100 ≤ n) (hw : Cond.fieldLink own idx "OppositeNets$Guard" "first" "[I" ∈ on_T) (hd : on_dq cc pc 3 pc2 (.getfield idx)) (k : on_G X E cc own rt fr lo nL z n σ x pc2 lv (.ref (z + 62) :: rest)) : on_G X E cc own rt fr lo nL z n σ x pc lv (.ref (z + 59) :: rest) := on_getg 1 4 on_in1 rfl (by decide) hw (ltc_59 hN) sh_59 rfl hd k
theorem fg_1_5 {kk : Int → Option on_O} (hN : 100 ≤ n) (hw : Cond.fieldLink own idx "OppositeNets$Guard" "quarrels" "I" ∈ on_T) (hd : on_dq cc pc 3 pc2 (.getfield idx)) (k : ∀ v : Int, on_G X E cc own rt fr lo nL z n σ (kk v) pc2 lv (.int (on_i v) :: rest)) : on_G X E cc own rt fr lo nL z n σ (on_Gt σ 59 5 kk) pc lv (.ref (z + 59) :: rest) := on_getg 1 5 on_in1 rfl (by decide) hw (ltc_59 hN) sh_59 rfl hd (k _)
theorem fp_1_5 {kk : on_S → Option on_O} (hN : 100 ≤ n) (hw : Cond.fieldLink own idx "OppositeNets$Guard" "quarrels" "I" ∈ on_T) (hd : on_dq cc pc 3 pc2 (.putfield idx)) (k : ∀ σ2 : on_S, on_G X E cc own rt fr lo nL z n σ2 (kk σ2) pc2 lv rest) : on_G X E cc own rt fr lo nL z n σ (on_Pt σ 59 5 a kk) pc lv (.int (on_i a) :: .ref (z + 59) :: rest) := on_putg 1 5 on_in1 tyX1 tyX1_ok nmX1 rfl (by decide) rfl (by decide +kernel) (fun r => by simp [on_fl]) (by simp [on_fl]) hw (ltc_59 hN) sh_59 hd k
theorem fg_1_6 {kk : Int → Option on_O} (hN : 100 ≤ n) (hw : Cond.fieldLink own idx "OppositeNets$Guard" "rowCount" "I" ∈ on_T) (hd : on_dq cc pc 3 pc2 (.getfield idx)) (k : ∀ v : Int, on_G X E cc own rt fr lo nL z n σ (kk v) pc2 lv (.int (on_i v) :: rest)) : on_G X E cc own rt fr lo nL z n σ (on_Gt σ 59 6 kk) pc lv (.ref (z + 59) :: rest) := on_getg 1 6 on_in1 rfl (by decide) hw (ltc_59 hN) sh_59 rfl hd (k _)
theorem fp_1_6 {kk : on_S → Option on_O} (hN : 100 ≤ n) (hw : Cond.fieldLink own idx "OppositeNets$Guard" "rowCount" "I" ∈ on_T) (hd : on_dq cc pc 3 pc2 (.putfield idx)) (k : ∀ σ2 : on_S, on_G X E cc own rt fr lo nL z n σ2 (kk σ2) pc2 lv rest) : on_G X E cc own rt fr lo nL z n σ (on_Pt σ 59 6 a kk) pc lv (.int (on_i a) :: .ref (z + 59) :: rest) := on_putg 1 6 on_in1 tyX1 tyX1_ok nmX1 rfl (by decide) rfl (by decide +kernel) (fun r => by simp [on_fl]) (by simp [on_fl]) hw (ltc_59 hN) sh_59 hd k
theorem fg_1_7 {kk : Int → Option on_O} (hN : 100 ≤ n) (hw : Cond.fieldLink own idx "OppositeNets$Guard" "firstRow" "I" ∈ on_T) (hd : on_dq cc pc 3 pc2 (.getfield idx)) (k : ∀ v : Int, on_G X E cc own rt fr lo nL z n σ (kk v) pc2 lv (.int (on_i v) :: rest)) : on_G X E cc own rt fr lo nL z n σ (on_Gt σ 59 7 kk) pc lv (.ref (z + 59) :: rest) := on_getg 1 7 on_in1 rfl (by decide) hw (ltc_59 hN) sh_59 rfl hd (k _)
theorem fp_1_7 {kk : on_S → Option on_O} (hN : 100 ≤ n) (hw : Cond.fieldLink own idx "OppositeNets$Guard" "firstRow" "I" ∈ on_T) (hd : on_dq cc pc 3 pc2 (.putfield idx)) (k : ∀ σ2 : on_S, on_G X E cc own rt fr lo nL z n σ2 (kk σ2) pc2 lv rest) : on_G X E cc own rt fr lo nL z n σ (on_Pt σ 59 7 a kk) pc lv (.int (on_i a) :: .ref (z + 59) :: rest) := on_putg 1 7 on_in1 tyX1 tyX1_ok nmX1 rfl (by decide) rfl (by decide +kernel) (fun r => by simp [on_fl]) (by simp [on_fl]) hw (ltc_59 hN) sh_59 hd k
theorem fg_1_8 {kk : Int → Option on_O} (hN : 100 ≤ n) (hw : Cond.fieldLink own idx "OppositeNets$Guard" "secondRow" "I" ∈ on_T) (hd : on_dq cc pc 3 pc2 (.getfield idx)) (k : ∀ v : Int, on_G X E cc own rt fr lo nL z n σ (kk v) pc2 lv (.int (on_i v) :: rest)) : on_G X E cc own rt fr lo nL z n σ (on_Gt σ 59 8 kk) pc lv (.ref (z + 59) :: rest) := on_getg 1 8 on_in1 rfl (by decide) hw (ltc_59 hN) sh_59 rfl hd (k _)
theorem fp_1_8 {kk : on_S → Option on_O} (hN : 100 ≤ n) (hw : Cond.fieldLink own idx "OppositeNets$Guard" "secondRow" "I" ∈ on_T) (hd : on_dq cc pc 3 pc2 (.putfield idx)) (k : ∀ σ2 : on_S, on_G X E cc own rt fr lo nL z n σ2 (kk σ2) pc2 lv rest) : on_G X E cc own rt fr lo nL z n σ (on_Pt σ 59 8 a kk) pc lv (.int (on_i a) :: .ref (z + 59) :: rest) := on_putg 1 8 on_in1 tyX1 tyX1_ok nmX1 rfl (by decide) rfl (by decide +kernel) (fun r => by simp [on_fl]) (by simp [on_fl]) hw (ltc_59 hN) sh_59 hd k
theorem fg_2_0 {kk : Int → Option on_O} (hb : on_Sb n b) (hw : Cond.fieldLink own idx "OppositeNets$Jumps" "count" "I" ∈ on_T) (hd : on_dq cc pc 3 pc2 (.getfield idx)) (k : ∀ v : Int, on_G X E cc own rt fr lo nL z n σ (kk v) pc2 lv (.int (on_i v) :: rest)) : on_G X E cc own rt fr lo nL z n σ (on_Gt σ (b + 20) 0 kk) pc lv (.ref (z + (b + 20)) :: rest) := on_getg 2 0 on_in2 rfl (by decide) hw (ltS_20 hb) (shS_20 hb) rfl hd (k _)
theorem fp_2_0 {kk : on_S → Option on_O} (hb : on_Sb n b) (hw : Cond.fieldLink own idx "OppositeNets$Jumps" "count" "I" ∈ on_T) (hd : on_dq cc pc 3 pc2 (.putfield idx)) (k : ∀ σ2 : on_S, on_G X E cc own rt fr lo nL z n σ2 (kk σ2) pc2 lv rest) : on_G X E cc own rt fr lo nL z n σ (on_Pt σ (b + 20) 0 a kk) pc lv (.int (on_i a) :: .ref (z + (b + 20)) :: rest) := on_putg 2 0 on_in2 tyX2 tyX2_ok nmX2 rfl (by decide) rfl (by decide +kernel) (fun r => by simp [on_fl]) (by simp [on_fl]) hw (ltS_20 hb) (shS_20 hb) hd k
theorem fg_2_1 (hb : on_Sb n b) (hw : Cond.fieldLink own idx "OppositeNets$Jumps" "jumper" "[I" ∈ on_T) (hd : on_dq cc pc 3 pc2 (.getfield idx)) (k : on_G X E cc own rt fr lo nL z n σ x pc2 lv (.ref (z + (b + 21)) :: rest)) : on_G X E cc own rt fr lo nL z n σ x pc lv (.ref (z + (b + 20)) :: rest) := on_getg 2 1 on_in2 rfl (by decide) hw (ltS_20 hb) (shS_20 hb) rfl hd k
theorem fg_2_2 (hb : on_Sb n b) (hw : Cond.fieldLink own idx "OppositeNets$Jumps" "gave" "[I" ∈ on_T) (hd : on_dq cc pc 3 pc2 (.getfield idx)) (k : on_G X E cc own rt fr lo nL z n σ x pc2 lv (.ref (z + (b + 22)) :: rest)) : on_G X E cc own rt fr lo nL z n σ x pc lv (.ref (z + (b + 20)) :: rest) := on_getg 2 2 on_in2 rfl (by decide) hw (ltS_20 hb) (shS_20 hb) rfl hd k
theorem fg_2_3 (hb : on_Sb n b) (hw : Cond.fieldLink own idx "OppositeNets$Jumps" "knots" "[I" ∈ on_T) (hd : on_dq cc pc 3 pc2 (.getfield idx)) (k : on_G X E cc own rt fr lo nL z n σ x pc2 lv (.ref (z + (b + 23)) :: rest)) : on_G X E cc own rt fr lo nL z n σ x pc lv (.ref (z + (b + 20)) :: rest) := on_getg 2 3 on_in2 rfl (by decide) hw (ltS_20 hb) (shS_20 hb) rfl hd k
theorem fg_3_0 {kk : Int → Option on_O} (hb : on_Sb n b) (hw : Cond.fieldLink own idx "OppositeNets$Men" "count" "I" ∈ on_T) (hd : on_dq cc pc 3 pc2 (.getfield idx)) (k : ∀ v : Int, on_G X E cc own rt fr lo nL z n σ (kk v) pc2 lv (.int (on_i v) :: rest)) : on_G X E cc own rt fr lo nL z n σ (on_Gt σ (b + 8) 0 kk) pc lv (.ref (z + (b + 8)) :: rest) := on_getg 3 0 on_in3 rfl (by decide) hw (ltS_8 hb) (shS_8 hb) rfl hd (k _)
theorem fp_3_0 {kk : on_S → Option on_O} (hb : on_Sb n b) (hw : Cond.fieldLink own idx "OppositeNets$Men" "count" "I" ∈ on_T) (hd : on_dq cc pc 3 pc2 (.putfield idx)) (k : ∀ σ2 : on_S, on_G X E cc own rt fr lo nL z n σ2 (kk σ2) pc2 lv rest) : on_G X E cc own rt fr lo nL z n σ (on_Pt σ (b + 8) 0 a kk) pc lv (.int (on_i a) :: .ref (z + (b + 8)) :: rest) := on_putg 3 0 on_in3 tyX3 tyX3_ok nmX3 rfl (by decide) rfl (by decide +kernel) (fun r => by simp [on_fl]) (by simp [on_fl]) hw (ltS_8 hb) (shS_8 hb) hd k
theorem fg_3_1 (hb : on_Sb n b) (hw : Cond.fieldLink own idx "OppositeNets$Men" "house" "[I" ∈ on_T) (hd : on_dq cc pc 3 pc2 (.getfield idx)) (k : on_G X E cc own rt fr lo nL z n σ x pc2 lv (.ref (z + (b + 9)) :: rest)) : on_G X E cc own rt fr lo nL z n σ x pc lv (.ref (z + (b + 8)) :: rest) := on_getg 3 1 on_in3 rfl (by decide) hw (ltS_8 hb) (shS_8 hb) rfl hd k
theorem fg_3_2 (hb : on_Sb n b) (hw : Cond.fieldLink own idx "OppositeNets$Men" "strength" "[I" ∈ on_T) (hd : on_dq cc pc 3 pc2 (.getfield idx)) (k : on_G X E cc own rt fr lo nL z n σ x pc2 lv (.ref (z + (b + 10)) :: rest)) : on_G X E cc own rt fr lo nL z n σ x pc lv (.ref (z + (b + 8)) :: rest) := on_getg 3 2 on_in3 rfl (by decide) hw (ltS_8 hb) (shS_8 hb) rfl hd k
theorem fg_3_3 (hb : on_Sb n b) (hw : Cond.fieldLink own idx "OppositeNets$Men" "net" "[I" ∈ on_T) (hd : on_dq cc pc 3 pc2 (.getfield idx)) (k : on_G X E cc own rt fr lo nL z n σ x pc2 lv (.ref (z + (b + 11)) :: rest)) : on_G X E cc own rt fr lo nL z n σ x pc lv (.ref (z + (b + 8)) :: rest) := on_getg 3 3 on_in3 rfl (by decide) hw (ltS_8 hb) (shS_8 hb) rfl hd k
theorem fg_3_4 (hb : on_Sb n b) (hw : Cond.fieldLink own idx "OppositeNets$Men" "corner" "[I" ∈ on_T) (hd : on_dq cc pc 3 pc2 (.getfield idx)) (k : on_G X E cc own rt fr lo nL z n σ x pc2 lv (.ref (z + (b + 12)) :: rest)) : on_G X E cc own rt fr lo nL z n σ x pc lv (.ref (z + (b + 8)) :: rest) := on_getg 3 4 on_in3 rfl (by decide) hw (ltS_8 hb) (shS_8 hb) rfl hd k
theorem fg_3_5 (hb : on_Sb n b) (hw : Cond.fieldLink own idx "OppositeNets$Men" "quarrels" "[I" ∈ on_T) (hd : on_dq cc pc 3 pc2 (.getfield idx)) (k : on_G X E cc own rt fr lo nL z n σ x pc2 lv (.ref (z + (b + 13)) :: rest)) : on_G X E cc own rt fr lo nL z n σ x pc lv (.ref (z + (b + 8)) :: rest) := on_getg 3 5 on_in3 rfl (by decide) hw (ltS_8 hb) (shS_8 hb) rfl hd k
theorem fg_4_0 {kk : Int → Option on_O} (hb : on_Sb n b) (hw : Cond.fieldLink own idx "OppositeNets$Nets" "count" "I" ∈ on_T) (hd : on_dq cc pc 3 pc2 (.getfield idx)) (k : ∀ v : Int, on_G X E cc own rt fr lo nL z n σ (kk v) pc2 lv (.int (on_i v) :: rest)) : on_G X E cc own rt fr lo nL z n σ (on_Gt σ (b + 14) 0 kk) pc lv (.ref (z + (b + 14)) :: rest) := on_getg 4 0 on_in4 rfl (by decide) hw (ltS_14 hb) (shS_14 hb) rfl hd (k _)
theorem fp_4_0 {kk : on_S → Option on_O} (hb : on_Sb n b) (hw : Cond.fieldLink own idx "OppositeNets$Nets" "count" "I" ∈ on_T) (hd : on_dq cc pc 3 pc2 (.putfield idx)) (k : ∀ σ2 : on_S, on_G X E cc own rt fr lo nL z n σ2 (kk σ2) pc2 lv rest) : on_G X E cc own rt fr lo nL z n σ (on_Pt σ (b + 14) 0 a kk) pc lv (.int (on_i a) :: .ref (z + (b + 14)) :: rest) := on_putg 4 0 on_in4 tyX4 tyX4_ok nmX4 rfl (by decide) rfl (by decide +kernel) (fun r => by simp [on_fl]) (by simp [on_fl]) hw (ltS_14 hb) (shS_14 hb) hd k
theorem fg_4_1 (hb : on_Sb n b) (hw : Cond.fieldLink own idx "OppositeNets$Nets" "window" "[I" ∈ on_T) (hd : on_dq cc pc 3 pc2 (.getfield idx)) (k : on_G X E cc own rt fr lo nL z n σ x pc2 lv (.ref (z + (b + 15)) :: rest)) : on_G X E cc own rt fr lo nL z n σ x pc lv (.ref (z + (b + 14)) :: rest) := on_getg 4 1 on_in4 rfl (by decide) hw (ltS_14 hb) (shS_14 hb) rfl hd k
theorem fg_4_2 (hb : on_Sb n b) (hw : Cond.fieldLink own idx "OppositeNets$Nets" "wears" "[I" ∈ on_T) (hd : on_dq cc pc 3 pc2 (.getfield idx)) (k : on_G X E cc own rt fr lo nL z n σ x pc2 lv (.ref (z + (b + 16)) :: rest)) : on_G X E cc own rt fr lo nL z n σ x pc lv (.ref (z + (b + 14)) :: rest) := on_getg 4 2 on_in4 rfl (by decide) hw (ltS_14 hb) (shS_14 hb) rfl hd k
theorem fg_4_3 (hb : on_Sb n b) (hw : Cond.fieldLink own idx "OppositeNets$Nets" "wet" "[I" ∈ on_T) (hd : on_dq cc pc 3 pc2 (.getfield idx)) (k : on_G X E cc own rt fr lo nL z n σ x pc2 lv (.ref (z + (b + 17)) :: rest)) : on_G X E cc own rt fr lo nL z n σ x pc lv (.ref (z + (b + 14)) :: rest) := on_getg 4 3 on_in4 rfl (by decide) hw (ltS_14 hb) (shS_14 hb) rfl hd k
theorem fg_4_4 (hb : on_Sb n b) (hw : Cond.fieldLink own idx "OppositeNets$Nets" "knots" "[I" ∈ on_T) (hd : on_dq cc pc 3 pc2 (.getfield idx)) (k : on_G X E cc own rt fr lo nL z n σ x pc2 lv (.ref (z + (b + 18)) :: rest)) : on_G X E cc own rt fr lo nL z n σ x pc lv (.ref (z + (b + 14)) :: rest) := on_getg 4 4 on_in4 rfl (by decide) hw (ltS_14 hb) (shS_14 hb) rfl hd k
theorem fg_4_5 (hb : on_Sb n b) (hw : Cond.fieldLink own idx "OppositeNets$Nets" "who" "[I" ∈ on_T) (hd : on_dq cc pc 3 pc2 (.getfield idx)) (k : on_G X E cc own rt fr lo nL z n σ x pc2 lv (.ref (z + (b + 19)) :: rest)) : on_G X E cc own rt fr lo nL z n σ x pc lv (.ref (z + (b + 14)) :: rest) := on_getg 4 5 on_in4 rfl (by decide) hw (ltS_14 hb) (shS_14 hb) rfl hd k
theorem fg_5_0 (hN : 100 ≤ n) (hw : Cond.fieldLink own idx "OppositeNets$Nights" "street" "LOppositeNets$Street;" ∈ on_T) (hd : on_dq cc pc 3 pc2 (.getfield idx)) (k : on_G X E cc own rt fr lo nL z n σ x pc2 lv (.ref (z + 2) :: rest)) : on_G X E cc own rt fr lo nL z n σ x pc lv (.ref (z + 65) :: rest) := on_getg 5 0 on_in5 rfl (by decide) hw (ltc_65 hN) sh_65 rfl hd k
theorem fg_5_1 (hN : 100 ≤ n) (hw : Cond.fieldLink own idx "OppositeNets$Nights" "knots" "[I" ∈ on_T) (hd : on_dq cc pc 3 pc2 (.getfield idx)) (k : on_G X E cc own rt fr lo nL z n σ x pc2 lv (.ref (z + 66) :: rest)) : on_G X E cc own rt fr lo nL z n σ x pc lv (.ref (z + 65) :: rest) := on_getg 5 1 on_in5 rfl (by decide) hw (ltc_65 hN) sh_65 rfl hd k
theorem fg_5_2 {kk : Int → Option on_O} (hN : 100 ≤ n) (hw : Cond.fieldLink own idx "OppositeNets$Nights" "heldCount" "I" ∈ on_T) (hd : on_dq cc pc 3 pc2 (.getfield idx)) (k : ∀ v : Int, on_G X E cc own rt fr lo nL z n σ (kk v) pc2 lv (.int (on_i v) :: rest)) : on_G X E cc own rt fr lo nL z n σ (on_Gt σ 65 2 kk) pc lv (.ref (z + 65) :: rest) := on_getg 5 2 on_in5 rfl (by decide) hw (ltc_65 hN) sh_65 rfl hd (k _)
theorem fp_5_2 {kk : on_S → Option on_O} (hN : 100 ≤ n) (hw : Cond.fieldLink own idx "OppositeNets$Nights" "heldCount" "I" ∈ on_T) (hd : on_dq cc pc 3 pc2 (.putfield idx)) (k : ∀ σ2 : on_S, on_G X E cc own rt fr lo nL z n σ2 (kk σ2) pc2 lv rest) : on_G X E cc own rt fr lo nL z n σ (on_Pt σ 65 2 a kk) pc lv (.int (on_i a) :: .ref (z + 65) :: rest) := on_putg 5 2 on_in5 tyX5 tyX5_ok nmX5 rfl (by decide) rfl (by decide +kernel) (fun r => by simp [on_fl]) (by simp [on_fl]) hw (ltc_65 hN) sh_65 hd k
theorem fg_5_3 {kk : Int → Option on_O} (hN : 100 ≤ n) (hw : Cond.fieldLink own idx "OppositeNets$Nights" "firstLost" "I" ∈ on_T) (hd : on_dq cc pc 3 pc2 (.getfield idx)) (k : ∀ v : Int, on_G X E cc own rt fr lo nL z n σ (kk v) pc2 lv (.int (on_i v) :: rest)) : on_G X E cc own rt fr lo nL z n σ (on_Gt σ 65 3 kk) pc lv (.ref (z + 65) :: rest) := on_getg 5 3 on_in5 rfl (by decide) hw (ltc_65 hN) sh_65 rfl hd (k _)
theorem fp_5_3 {kk : on_S → Option on_O} (hN : 100 ≤ n) (hw : Cond.fieldLink own idx "OppositeNets$Nights" "firstLost" "I" ∈ on_T) (hd : on_dq cc pc 3 pc2 (.putfield idx)) (k : ∀ σ2 : on_S, on_G X E cc own rt fr lo nL z n σ2 (kk σ2) pc2 lv rest) : on_G X E cc own rt fr lo nL z n σ (on_Pt σ 65 3 a kk) pc lv (.int (on_i a) :: .ref (z + 65) :: rest) := on_putg 5 3 on_in5 tyX5 tyX5_ok nmX5 rfl (by decide) rfl (by decide +kernel) (fun r => by simp [on_fl]) (by simp [on_fl]) hw (ltc_65 hN) sh_65 hd k
theorem fg_6_0 (hN : 100 ≤ n) (hw : Cond.fieldLink own idx "OppositeNets$Reader" "text" "[B" ∈ on_T) (hd : on_dq cc pc 3 pc2 (.getfield idx)) (k : on_G X E cc own rt fr lo nL z n σ x pc2 lv (.ref (z + 1) :: rest)) : on_G X E cc own rt fr lo nL z n σ x pc lv (.ref (z + 52) :: rest) := on_getg 6 0 on_in6 rfl (by decide) hw (ltc_52 hN) sh_52 rfl hd k
theorem fg_6_1 (hN : 100 ≤ n) (hw : Cond.fieldLink own idx "OppositeNets$Reader" "told" "LOppositeNets$Street;" ∈ on_T) (hd : on_dq cc pc 3 pc2 (.getfield idx)) (k : on_G X E cc own rt fr lo nL z n σ x pc2 lv (.ref (z + 27) :: rest)) : on_G X E cc own rt fr lo nL z n σ x pc lv (.ref (z + 52) :: rest) := on_getg 6 1 on_in6 rfl (by decide) hw (ltc_52 hN) sh_52 rfl hd k
theorem fg_6_2 {kk : Int → Option on_O} (hN : 100 ≤ n) (hw : Cond.fieldLink own idx "OppositeNets$Reader" "length" "I" ∈ on_T) (hd : on_dq cc pc 3 pc2 (.getfield idx)) (k : ∀ v : Int, on_G X E cc own rt fr lo nL z n σ (kk v) pc2 lv (.int (on_i v) :: rest)) : on_G X E cc own rt fr lo nL z n σ (on_Gt σ 52 2 kk) pc lv (.ref (z + 52) :: rest) := on_getg 6 2 on_in6 rfl (by decide) hw (ltc_52 hN) sh_52 rfl hd (k _)
theorem fp_6_2 {kk : on_S → Option on_O} (hN : 100 ≤ n) (hw : Cond.fieldLink own idx "OppositeNets$Reader" "length" "I" ∈ on_T) (hd : on_dq cc pc 3 pc2 (.putfield idx)) (k : ∀ σ2 : on_S, on_G X E cc own rt fr lo nL z n σ2 (kk σ2) pc2 lv rest) : on_G X E cc own rt fr lo nL z n σ (on_Pt σ 52 2 a kk) pc lv (.int (on_i a) :: .ref (z + 52) :: rest) := on_putg 6 2 on_in6 tyX6 tyX6_ok nmX6 rfl (by decide) rfl (by decide +kernel) (fun r => by simp [on_fl]) (by simp [on_fl]) hw (ltc_52 hN) sh_52 hd k
theorem fg_6_3 {kk : Int → Option on_O} (hN : 100 ≤ n) (hw : Cond.fieldLink own idx "OppositeNets$Reader" "at" "I" ∈ on_T) (hd : on_dq cc pc 3 pc2 (.getfield idx)) (k : ∀ v : Int, on_G X E cc own rt fr lo nL z n σ (kk v) pc2 lv (.int (on_i v) :: rest)) : on_G X E cc own rt fr lo nL z n σ (on_Gt σ 52 3 kk) pc lv (.ref (z + 52) :: rest) := on_getg 6 3 on_in6 rfl (by decide) hw (ltc_52 hN) sh_52 rfl hd (k _)
theorem fp_6_3 {kk : on_S → Option on_O} (hN : 100 ≤ n) (hw : Cond.fieldLink own idx "OppositeNets$Reader" "at" "I" ∈ on_T) (hd : on_dq cc pc 3 pc2 (.putfield idx)) (k : ∀ σ2 : on_S, on_G X E cc own rt fr lo nL z n σ2 (kk σ2) pc2 lv rest) : on_G X E cc own rt fr lo nL z n σ (on_Pt σ 52 3 a kk) pc lv (.int (on_i a) :: .ref (z + 52) :: rest) := on_putg 6 3 on_in6 tyX6 tyX6_ok nmX6 rfl (by decide) rfl (by decide +kernel) (fun r => by simp [on_fl]) (by simp [on_fl]) hw (ltc_52 hN) sh_52 hd k
theorem fg_6_4 {kk : Int → Option on_O} (hN : 100 ≤ n) (hw : Cond.fieldLink own idx "OppositeNets$Reader" "kind" "I" ∈ on_T) (hd : on_dq cc pc 3 pc2 (.getfield idx)) (k : ∀ v : Int, on_G X E cc own rt fr lo nL z n σ (kk v) pc2 lv (.int (on_i v) :: rest)) : on_G X E cc own rt fr lo nL z n σ (on_Gt σ 52 4 kk) pc lv (.ref (z + 52) :: rest) := on_getg 6 4 on_in6 rfl (by decide) hw (ltc_52 hN) sh_52 rfl hd (k _)
theorem fp_6_4 {kk : on_S → Option on_O} (hN : 100 ≤ n) (hw : Cond.fieldLink own idx "OppositeNets$Reader" "kind" "I" ∈ on_T) (hd : on_dq cc pc 3 pc2 (.putfield idx)) (k : ∀ σ2 : on_S, on_G X E cc own rt fr lo nL z n σ2 (kk σ2) pc2 lv rest) : on_G X E cc own rt fr lo nL z n σ (on_Pt σ 52 4 a kk) pc lv (.int (on_i a) :: .ref (z + 52) :: rest) := on_putg 6 4 on_in6 tyX6 tyX6_ok nmX6 rfl (by decide) rfl (by decide +kernel) (fun r => by simp [on_fl]) (by simp [on_fl]) hw (ltc_52 hN) sh_52 hd k
theorem fg_6_5 {kk : Int → Option on_O} (hN : 100 ≤ n) (hw : Cond.fieldLink own idx "OppositeNets$Reader" "start" "I" ∈ on_T) (hd : on_dq cc pc 3 pc2 (.getfield idx)) (k : ∀ v : Int, on_G X E cc own rt fr lo nL z n σ (kk v) pc2 lv (.int (on_i v) :: rest)) : on_G X E cc own rt fr lo nL z n σ (on_Gt σ 52 5 kk) pc lv (.ref (z + 52) :: rest) := on_getg 6 5 on_in6 rfl (by decide) hw (ltc_52 hN) sh_52 rfl hd (k _)
theorem fp_6_5 {kk : on_S → Option on_O} (hN : 100 ≤ n) (hw : Cond.fieldLink own idx "OppositeNets$Reader" "start" "I" ∈ on_T) (hd : on_dq cc pc 3 pc2 (.putfield idx)) (k : ∀ σ2 : on_S, on_G X E cc own rt fr lo nL z n σ2 (kk σ2) pc2 lv rest) : on_G X E cc own rt fr lo nL z n σ (on_Pt σ 52 5 a kk) pc lv (.int (on_i a) :: .ref (z + 52) :: rest) := on_putg 6 5 on_in6 tyX6 tyX6_ok nmX6 rfl (by decide) rfl (by decide +kernel) (fun r => by simp [on_fl]) (by simp [on_fl]) hw (ltc_52 hN) sh_52 hd k
theorem fg_6_6 {kk : Int → Option on_O} (hN : 100 ≤ n) (hw : Cond.fieldLink own idx "OppositeNets$Reader" "value" "I" ∈ on_T) (hd : on_dq cc pc 3 pc2 (.getfield idx)) (k : ∀ v : Int, on_G X E cc own rt fr lo nL z n σ (kk v) pc2 lv (.int (on_i v) :: rest)) : on_G X E cc own rt fr lo nL z n σ (on_Gt σ 52 6 kk) pc lv (.ref (z + 52) :: rest) := on_getg 6 6 on_in6 rfl (by decide) hw (ltc_52 hN) sh_52 rfl hd (k _)
theorem fp_6_6 {kk : on_S → Option on_O} (hN : 100 ≤ n) (hw : Cond.fieldLink own idx "OppositeNets$Reader" "value" "I" ∈ on_T) (hd : on_dq cc pc 3 pc2 (.putfield idx)) (k : ∀ σ2 : on_S, on_G X E cc own rt fr lo nL z n σ2 (kk σ2) pc2 lv rest) : on_G X E cc own rt fr lo nL z n σ (on_Pt σ 52 6 a kk) pc lv (.int (on_i a) :: .ref (z + 52) :: rest) := on_putg 6 6 on_in6 tyX6 tyX6_ok nmX6 rfl (by decide) rfl (by decide +kernel) (fun r => by simp [on_fl]) (by simp [on_fl]) hw (ltc_52 hN) sh_52 hd k
theorem fg_6_7 {kk : Int → Option on_O} (hN : 100 ≤ n) (hw : Cond.fieldLink own idx "OppositeNets$Reader" "numberPlace" "I" ∈ on_T) (hd : on_dq cc pc 3 pc2 (.getfield idx)) (k : ∀ v : Int, on_G X E cc own rt fr lo nL z n σ (kk v) pc2 lv (.int (on_i v) :: rest)) : on_G X E cc own rt fr lo nL z n σ (on_Gt σ 52 7 kk) pc lv (.ref (z + 52) :: rest) := on_getg 6 7 on_in6 rfl (by decide) hw (ltc_52 hN) sh_52 rfl hd (k _)
theorem fp_6_7 {kk : on_S → Option on_O} (hN : 100 ≤ n) (hw : Cond.fieldLink own idx "OppositeNets$Reader" "numberPlace" "I" ∈ on_T) (hd : on_dq cc pc 3 pc2 (.putfield idx)) (k : ∀ σ2 : on_S, on_G X E cc own rt fr lo nL z n σ2 (kk σ2) pc2 lv rest) : on_G X E cc own rt fr lo nL z n σ (on_Pt σ 52 7 a kk) pc lv (.int (on_i a) :: .ref (z + 52) :: rest) := on_putg 6 7 on_in6 tyX6 tyX6_ok nmX6 rfl (by decide) rfl (by decide +kernel) (fun r => by simp [on_fl]) (by simp [on_fl]) hw (ltc_52 hN) sh_52 hd k
theorem fg_6_8 {kk : Int → Option on_O} (hN : 100 ≤ n) (hw : Cond.fieldLink own idx "OppositeNets$Reader" "fault" "I" ∈ on_T) (hd : on_dq cc pc 3 pc2 (.getfield idx)) (k : ∀ v : Int, on_G X E cc own rt fr lo nL z n σ (kk v) pc2 lv (.int (on_i v) :: rest)) : on_G X E cc own rt fr lo nL z n σ (on_Gt σ 52 8 kk) pc lv (.ref (z + 52) :: rest) := on_getg 6 8 on_in6 rfl (by decide) hw (ltc_52 hN) sh_52 rfl hd (k _)
theorem fp_6_8 {kk : on_S → Option on_O} (hN : 100 ≤ n) (hw : Cond.fieldLink own idx "OppositeNets$Reader" "fault" "I" ∈ on_T) (hd : on_dq cc pc 3 pc2 (.putfield idx)) (k : ∀ σ2 : on_S, on_G X E cc own rt fr lo nL z n σ2 (kk σ2) pc2 lv rest) : on_G X E cc own rt fr lo nL z n σ (on_Pt σ 52 8 a kk) pc lv (.int (on_i a) :: .ref (z + 52) :: rest) := on_putg 6 8 on_in6 tyX6 tyX6_ok nmX6 rfl (by decide) rfl (by decide +kernel) (fun r => by simp [on_fl]) (by simp [on_fl]) hw (ltc_52 hN) sh_52 hd k
theorem fg_6_9 {kk : Int → Option on_O} (hN : 100 ≤ n) (hw : Cond.fieldLink own idx "OppositeNets$Reader" "place" "I" ∈ on_T) (hd : on_dq cc pc 3 pc2 (.getfield idx)) (k : ∀ v : Int, on_G X E cc own rt fr lo nL z n σ (kk v) pc2 lv (.int (on_i v) :: rest)) : on_G X E cc own rt fr lo nL z n σ (on_Gt σ 52 9 kk) pc lv (.ref (z + 52) :: rest) := on_getg 6 9 on_in6 rfl (by decide) hw (ltc_52 hN) sh_52 rfl hd (k _)
theorem fp_6_9 {kk : on_S → Option on_O} (hN : 100 ≤ n) (hw : Cond.fieldLink own idx "OppositeNets$Reader" "place" "I" ∈ on_T) (hd : on_dq cc pc 3 pc2 (.putfield idx)) (k : ∀ σ2 : on_S, on_G X E cc own rt fr lo nL z n σ2 (kk σ2) pc2 lv rest) : on_G X E cc own rt fr lo nL z n σ (on_Pt σ 52 9 a kk) pc lv (.int (on_i a) :: .ref (z + 52) :: rest) := on_putg 6 9 on_in6 tyX6 tyX6_ok nmX6 rfl (by decide) rfl (by decide +kernel) (fun r => by simp [on_fl]) (by simp [on_fl]) hw (ltc_52 hN) sh_52 hd k
theorem fg_7_0 (hN : 100 ≤ n) (hw : Cond.fieldLink own idx "OppositeNets$Rings" "street" "LOppositeNets$Street;" ∈ on_T) (hd : on_dq cc pc 3 pc2 (.getfield idx)) (k : on_G X E cc own rt fr lo nL z n σ x pc2 lv (.ref (z + 2) :: rest)) : on_G X E cc own rt fr lo nL z n σ x pc lv (.ref (z + 55) :: rest) := on_getg 7 0 on_in7 rfl (by decide) hw (ltc_55 hN) sh_55 rfl hd k
theorem fg_7_1 (hN : 100 ≤ n) (hw : Cond.fieldLink own idx "OppositeNets$Rings" "rows" "[I" ∈ on_T) (hd : on_dq cc pc 3 pc2 (.getfield idx)) (k : on_G X E cc own rt fr lo nL z n σ x pc2 lv (.ref (z + 56) :: rest)) : on_G X E cc own rt fr lo nL z n σ x pc lv (.ref (z + 55) :: rest) := on_getg 7 1 on_in7 rfl (by decide) hw (ltc_55 hN) sh_55 rfl hd k
theorem fg_7_2 (hN : 100 ≤ n) (hw : Cond.fieldLink own idx "OppositeNets$Rings" "able" "[I" ∈ on_T) (hd : on_dq cc pc 3 pc2 (.getfield idx)) (k : on_G X E cc own rt fr lo nL z n σ x pc2 lv (.ref (z + 57) :: rest)) : on_G X E cc own rt fr lo nL z n σ x pc lv (.ref (z + 55) :: rest) := on_getg 7 2 on_in7 rfl (by decide) hw (ltc_55 hN) sh_55 rfl hd k
theorem fg_7_3 (hN : 100 ≤ n) (hw : Cond.fieldLink own idx "OppositeNets$Rings" "most" "[I" ∈ on_T) (hd : on_dq cc pc 3 pc2 (.getfield idx)) (k : on_G X E cc own rt fr lo nL z n σ x pc2 lv (.ref (z + 58) :: rest)) : on_G X E cc own rt fr lo nL z n σ x pc lv (.ref (z + 55) :: rest) := on_getg 7 3 on_in7 rfl (by decide) hw (ltc_55 hN) sh_55 rfl hd k
theorem fg_7_4 {kk : Int → Option on_O} (hN : 100 ≤ n) (hw : Cond.fieldLink own idx "OppositeNets$Rings" "leastKnot" "I" ∈ on_T) (hd : on_dq cc pc 3 pc2 (.getfield idx)) (k : ∀ v : Int, on_G X E cc own rt fr lo nL z n σ (kk v) pc2 lv (.int (on_i v) :: rest)) : on_G X E cc own rt fr lo nL z n σ (on_Gt σ 55 4 kk) pc lv (.ref (z + 55) :: rest) := on_getg 7 4 on_in7 rfl (by decide) hw (ltc_55 hN) sh_55 rfl hd (k _)
theorem fp_7_4 {kk : on_S → Option on_O} (hN : 100 ≤ n) (hw : Cond.fieldLink own idx "OppositeNets$Rings" "leastKnot" "I" ∈ on_T) (hd : on_dq cc pc 3 pc2 (.putfield idx)) (k : ∀ σ2 : on_S, on_G X E cc own rt fr lo nL z n σ2 (kk σ2) pc2 lv rest) : on_G X E cc own rt fr lo nL z n σ (on_Pt σ 55 4 a kk) pc lv (.int (on_i a) :: .ref (z + 55) :: rest) := on_putg 7 4 on_in7 tyX7 tyX7_ok nmX7 rfl (by decide) rfl (by decide +kernel) (fun r => by simp [on_fl]) (by simp [on_fl]) hw (ltc_55 hN) sh_55 hd k
theorem fg_7_5 {kk : Int → Option on_O} (hN : 100 ≤ n) (hw : Cond.fieldLink own idx "OppositeNets$Rings" "carried" "I" ∈ on_T) (hd : on_dq cc pc 3 pc2 (.getfield idx)) (k : ∀ v : Int, on_G X E cc own rt fr lo nL z n σ (kk v) pc2 lv (.int (on_i v) :: rest)) : on_G X E cc own rt fr lo nL z n σ (on_Gt σ 55 5 kk) pc lv (.ref (z + 55) :: rest) := on_getg 7 5 on_in7 rfl (by decide) hw (ltc_55 hN) sh_55 rfl hd (k _)
theorem fp_7_5 {kk : on_S → Option on_O} (hN : 100 ≤ n) (hw : Cond.fieldLink own idx "OppositeNets$Rings" "carried" "I" ∈ on_T) (hd : on_dq cc pc 3 pc2 (.putfield idx)) (k : ∀ σ2 : on_S, on_G X E cc own rt fr lo nL z n σ2 (kk σ2) pc2 lv rest) : on_G X E cc own rt fr lo nL z n σ (on_Pt σ 55 5 a kk) pc lv (.int (on_i a) :: .ref (z + 55) :: rest) := on_putg 7 5 on_in7 tyX7 tyX7_ok nmX7 rfl (by decide) rfl (by decide +kernel) (fun r => by simp [on_fl]) (by simp [on_fl]) hw (ltc_55 hN) sh_55 hd k
theorem fg_8_0 {kk : Int → Option on_O} (hN : 100 ≤ n) (hb : on_Lb b) (hw : Cond.fieldLink own idx "OppositeNets$Slot" "width" "I" ∈ on_T) (hd : on_dq cc pc 3 pc2 (.getfield idx)) (k : ∀ v : Int, on_G X E cc own rt fr lo nL z n σ (kk v) pc2 lv (.int (on_i v) :: rest)) : on_G X E cc own rt fr lo nL z n σ (on_Gt σ b 0 kk) pc lv (.ref (z + b) :: rest) := on_getg 8 0 on_in8 rfl (by decide) hw (ltL_0 hN hb) (shL_0 hb) rfl hd (k _)
theorem fp_8_0 {kk : on_S → Option on_O} (hN : 100 ≤ n) (hb : on_Lb b) (hw : Cond.fieldLink own idx "OppositeNets$Slot" "width" "I" ∈ on_T) (hd : on_dq cc pc 3 pc2 (.putfield idx)) (k : ∀ σ2 : on_S, on_G X E cc own rt fr lo nL z n σ2 (kk σ2) pc2 lv rest) : on_G X E cc own rt fr lo nL z n σ (on_Pt σ b 0 a kk) pc lv (.int (on_i a) :: .ref (z + b) :: rest) := on_putg 8 0 on_in8 tyX8 tyX8_ok nmX8 rfl (by decide) rfl (by decide +kernel) (fun r => by simp [on_fl]) (by simp [on_fl]) hw (ltL_0 hN hb) (shL_0 hb) hd k
theorem fg_8_1 {kk : Int → Option on_O} (hN : 100 ≤ n) (hb : on_Lb b) (hw : Cond.fieldLink own idx "OppositeNets$Slot" "length" "I" ∈ on_T) (hd : on_dq cc pc 3 pc2 (.getfield idx)) (k : ∀ v : Int, on_G X E cc own rt fr lo nL z n σ (kk v) pc2 lv (.int (on_i v) :: rest)) : on_G X E cc own rt fr lo nL z n σ (on_Gt σ b 1 kk) pc lv (.ref (z + b) :: rest) := on_getg 8 1 on_in8 rfl (by decide) hw (ltL_0 hN hb) (shL_0 hb) rfl hd (k _)
theorem fp_8_1 {kk : on_S → Option on_O} (hN : 100 ≤ n) (hb : on_Lb b) (hw : Cond.fieldLink own idx "OppositeNets$Slot" "length" "I" ∈ on_T) (hd : on_dq cc pc 3 pc2 (.putfield idx)) (k : ∀ σ2 : on_S, on_G X E cc own rt fr lo nL z n σ2 (kk σ2) pc2 lv rest) : on_G X E cc own rt fr lo nL z n σ (on_Pt σ b 1 a kk) pc lv (.int (on_i a) :: .ref (z + b) :: rest) := on_putg 8 1 on_in8 tyX8 tyX8_ok nmX8 rfl (by decide) rfl (by decide +kernel) (fun r => by simp [on_fl]) (by simp [on_fl]) hw (ltL_0 hN hb) (shL_0 hb) hd k
theorem fg_8_2 (hN : 100 ≤ n) (hb : on_Lb b) (hw : Cond.fieldLink own idx "OppositeNets$Slot" "numbers" "[J" ∈ on_T) (hd : on_dq cc pc 3 pc2 (.getfield idx)) (k : on_G X E cc own rt fr lo nL z n σ x pc2 lv (.ref (z + (b + 1)) :: rest)) : on_G X E cc own rt fr lo nL z n σ x pc lv (.ref (z + b) :: rest) := on_getg 8 2 on_in8 rfl (by decide) hw (ltL_0 hN hb) (shL_0 hb) rfl hd k
theorem fg_9_0 {kk : Int → Option on_O} (hb : on_Sb n b) (hw : Cond.fieldLink own idx "OppositeNets$Street" "houses" "I" ∈ on_T) (hd : on_dq cc pc 3 pc2 (.getfield idx)) (k : ∀ v : Int, on_G X E cc own rt fr lo nL z n σ (kk v) pc2 lv (.int (on_i v) :: rest)) : on_G X E cc own rt fr lo nL z n σ (on_Gt σ b 0 kk) pc lv (.ref (z + b) :: rest) := on_getg 9 0 on_in9 rfl (by decide) hw (ltS_0 hb) (shS_0 hb) rfl hd (k _)
theorem fp_9_0 {kk : on_S → Option on_O} (hb : on_Sb n b) (hw : Cond.fieldLink own idx "OppositeNets$Street" "houses" "I" ∈ on_T) (hd : on_dq cc pc 3 pc2 (.putfield idx)) (k : ∀ σ2 : on_S, on_G X E cc own rt fr lo nL z n σ2 (kk σ2) pc2 lv rest) : on_G X E cc own rt fr lo nL z n σ (on_Pt σ b 0 a kk) pc lv (.int (on_i a) :: .ref (z + b) :: rest) := on_putg 9 0 on_in9 tyX9 tyX9_ok nmX9 rfl (by decide) rfl (by decide +kernel) (fun r => by simp [on_fl]) (by simp [on_fl]) hw (ltS_0 hb) (shS_0 hb) hd k
theorem fg_9_1 {kk : Int → Option on_O} (hb : on_Sb n b) (hw : Cond.fieldLink own idx "OppositeNets$Street" "storeys" "I" ∈ on_T) (hd : on_dq cc pc 3 pc2 (.getfield idx)) (k : ∀ v : Int, on_G X E cc own rt fr lo nL z n σ (kk v) pc2 lv (.int (on_i v) :: rest)) : on_G X E cc own rt fr lo nL z n σ (on_Gt σ b 1 kk) pc lv (.ref (z + b) :: rest) := on_getg 9 1 on_in9 rfl (by decide) hw (ltS_0 hb) (shS_0 hb) rfl hd (k _)
theorem fp_9_1 {kk : on_S → Option on_O} (hb : on_Sb n b) (hw : Cond.fieldLink own idx "OppositeNets$Street" "storeys" "I" ∈ on_T) (hd : on_dq cc pc 3 pc2 (.putfield idx)) (k : ∀ σ2 : on_S, on_G X E cc own rt fr lo nL z n σ2 (kk σ2) pc2 lv rest) : on_G X E cc own rt fr lo nL z n σ (on_Pt σ b 1 a kk) pc lv (.int (on_i a) :: .ref (z + b) :: rest) := on_putg 9 1 on_in9 tyX9 tyX9_ok nmX9 rfl (by decide) rfl (by decide +kernel) (fun r => by simp [on_fl]) (by simp [on_fl]) hw (ltS_0 hb) (shS_0 hb) hd k
theorem fg_9_2 {kk : Int → Option on_O} (hb : on_Sb n b) (hw : Cond.fieldLink own idx "OppositeNets$Street" "lines" "I" ∈ on_T) (hd : on_dq cc pc 3 pc2 (.getfield idx)) (k : ∀ v : Int, on_G X E cc own rt fr lo nL z n σ (kk v) pc2 lv (.int (on_i v) :: rest)) : on_G X E cc own rt fr lo nL z n σ (on_Gt σ b 2 kk) pc lv (.ref (z + b) :: rest) := on_getg 9 2 on_in9 rfl (by decide) hw (ltS_0 hb) (shS_0 hb) rfl hd (k _)
theorem fp_9_2 {kk : on_S → Option on_O} (hb : on_Sb n b) (hw : Cond.fieldLink own idx "OppositeNets$Street" "lines" "I" ∈ on_T) (hd : on_dq cc pc 3 pc2 (.putfield idx)) (k : ∀ σ2 : on_S, on_G X E cc own rt fr lo nL z n σ2 (kk σ2) pc2 lv rest) : on_G X E cc own rt fr lo nL z n σ (on_Pt σ b 2 a kk) pc lv (.int (on_i a) :: .ref (z + b) :: rest) := on_putg 9 2 on_in9 tyX9 tyX9_ok nmX9 rfl (by decide) rfl (by decide +kernel) (fun r => by simp [on_fl]) (by simp [on_fl]) hw (ltS_0 hb) (shS_0 hb) hd k
theorem fg_9_3 {kk : Int → Option on_O} (hb : on_Sb n b) (hw : Cond.fieldLink own idx "OppositeNets$Street" "windows" "I" ∈ on_T) (hd : on_dq cc pc 3 pc2 (.getfield idx)) (k : ∀ v : Int, on_G X E cc own rt fr lo nL z n σ (kk v) pc2 lv (.int (on_i v) :: rest)) : on_G X E cc own rt fr lo nL z n σ (on_Gt σ b 3 kk) pc lv (.ref (z + b) :: rest) := on_getg 9 3 on_in9 rfl (by decide) hw (ltS_0 hb) (shS_0 hb) rfl hd (k _)
theorem fp_9_3 {kk : on_S → Option on_O} (hb : on_Sb n b) (hw : Cond.fieldLink own idx "OppositeNets$Street" "windows" "I" ∈ on_T) (hd : on_dq cc pc 3 pc2 (.putfield idx)) (k : ∀ σ2 : on_S, on_G X E cc own rt fr lo nL z n σ2 (kk σ2) pc2 lv rest) : on_G X E cc own rt fr lo nL z n σ (on_Pt σ b 3 a kk) pc lv (.int (on_i a) :: .ref (z + b) :: rest) := on_putg 9 3 on_in9 tyX9 tyX9_ok nmX9 rfl (by decide) rfl (by decide +kernel) (fun r => by simp [on_fl]) (by simp [on_fl]) hw (ltS_0 hb) (shS_0 hb) hd k
theorem fg_9_4 (hb : on_Sb n b) (hw : Cond.fieldLink own idx "OppositeNets$Street" "house" "[I" ∈ on_T) (hd : on_dq cc pc 3 pc2 (.getfield idx)) (k : on_G X E cc own rt fr lo nL z n σ x pc2 lv (.ref (z + (b + 1)) :: rest)) : on_G X E cc own rt fr lo nL z n σ x pc lv (.ref (z + b) :: rest) := on_getg 9 4 on_in9 rfl (by decide) hw (ltS_0 hb) (shS_0 hb) rfl hd k
theorem fg_9_5 (hb : on_Sb n b) (hw : Cond.fieldLink own idx "OppositeNets$Street" "storey" "[I" ∈ on_T) (hd : on_dq cc pc 3 pc2 (.getfield idx)) (k : on_G X E cc own rt fr lo nL z n σ x pc2 lv (.ref (z + (b + 2)) :: rest)) : on_G X E cc own rt fr lo nL z n σ x pc lv (.ref (z + b) :: rest) := on_getg 9 5 on_in9 rfl (by decide) hw (ltS_0 hb) (shS_0 hb) rfl hd k
theorem fg_9_6 (hb : on_Sb n b) (hw : Cond.fieldLink own idx "OppositeNets$Street" "netAt" "[I" ∈ on_T) (hd : on_dq cc pc 3 pc2 (.getfield idx)) (k : on_G X E cc own rt fr lo nL z n σ x pc2 lv (.ref (z + (b + 3)) :: rest)) : on_G X E cc own rt fr lo nL z n σ x pc lv (.ref (z + b) :: rest) := on_getg 9 6 on_in9 rfl (by decide) hw (ltS_0 hb) (shS_0 hb) rfl hd k
theorem fg_9_7 {kk : Int → Option on_O} (hb : on_Sb n b) (hw : Cond.fieldLink own idx "OppositeNets$Street" "jumpers" "I" ∈ on_T) (hd : on_dq cc pc 3 pc2 (.getfield idx)) (k : ∀ v : Int, on_G X E cc own rt fr lo nL z n σ (kk v) pc2 lv (.int (on_i v) :: rest)) : on_G X E cc own rt fr lo nL z n σ (on_Gt σ b 7 kk) pc lv (.ref (z + b) :: rest) := on_getg 9 7 on_in9 rfl (by decide) hw (ltS_0 hb) (shS_0 hb) rfl hd (k _)
theorem fp_9_7 {kk : on_S → Option on_O} (hb : on_Sb n b) (hw : Cond.fieldLink own idx "OppositeNets$Street" "jumpers" "I" ∈ on_T) (hd : on_dq cc pc 3 pc2 (.putfield idx)) (k : ∀ σ2 : on_S, on_G X E cc own rt fr lo nL z n σ2 (kk σ2) pc2 lv rest) : on_G X E cc own rt fr lo nL z n σ (on_Pt σ b 7 a kk) pc lv (.int (on_i a) :: .ref (z + b) :: rest) := on_putg 9 7 on_in9 tyX9 tyX9_ok nmX9 rfl (by decide) rfl (by decide +kernel) (fun r => by simp [on_fl]) (by simp [on_fl]) hw (ltS_0 hb) (shS_0 hb) hd k
theorem fg_9_8 (hb : on_Sb n b) (hw : Cond.fieldLink own idx "OppositeNets$Street" "weight" "[I" ∈ on_T) (hd : on_dq cc pc 3 pc2 (.getfield idx)) (k : on_G X E cc own rt fr lo nL z n σ x pc2 lv (.ref (z + (b + 4)) :: rest)) : on_G X E cc own rt fr lo nL z n σ x pc lv (.ref (z + b) :: rest) := on_getg 9 8 on_in9 rfl (by decide) hw (ltS_0 hb) (shS_0 hb) rfl hd k
theorem fg_9_9 (hb : on_Sb n b) (hw : Cond.fieldLink own idx "OppositeNets$Street" "from" "[I" ∈ on_T) (hd : on_dq cc pc 3 pc2 (.getfield idx)) (k : on_G X E cc own rt fr lo nL z n σ x pc2 lv (.ref (z + (b + 5)) :: rest)) : on_G X E cc own rt fr lo nL z n σ x pc lv (.ref (z + b) :: rest) := on_getg 9 9 on_in9 rfl (by decide) hw (ltS_0 hb) (shS_0 hb) rfl hd k
theorem fg_9_10 (hb : on_Sb n b) (hw : Cond.fieldLink own idx "OppositeNets$Street" "feuds" "[I" ∈ on_T) (hd : on_dq cc pc 3 pc2 (.getfield idx)) (k : on_G X E cc own rt fr lo nL z n σ x pc2 lv (.ref (z + (b + 6)) :: rest)) : on_G X E cc own rt fr lo nL z n σ x pc lv (.ref (z + b) :: rest) := on_getg 9 10 on_in9 rfl (by decide) hw (ltS_0 hb) (shS_0 hb) rfl hd k
theorem fg_9_11 (hb : on_Sb n b) (hw : Cond.fieldLink own idx "OppositeNets$Street" "roads" "[I" ∈ on_T) (hd : on_dq cc pc 3 pc2 (.getfield idx)) (k : on_G X E cc own rt fr lo nL z n σ x pc2 lv (.ref (z + (b + 7)) :: rest)) : on_G X E cc own rt fr lo nL z n σ x pc lv (.ref (z + b) :: rest) := on_getg 9 11 on_in9 rfl (by decide) hw (ltS_0 hb) (shS_0 hb) rfl hd k
theorem fg_9_12 (hb : on_Sb n b) (hw : Cond.fieldLink own idx "OppositeNets$Street" "men" "LOppositeNets$Men;" ∈ on_T) (hd : on_dq cc pc 3 pc2 (.getfield idx)) (k : on_G X E cc own rt fr lo nL z n σ x pc2 lv (.ref (z + (b + 8)) :: rest)) : on_G X E cc own rt fr lo nL z n σ x pc lv (.ref (z + b) :: rest) := on_getg 9 12 on_in9 rfl (by decide) hw (ltS_0 hb) (shS_0 hb) rfl hd k
theorem fg_9_13 (hb : on_Sb n b) (hw : Cond.fieldLink own idx "OppositeNets$Street" "nets" "LOppositeNets$Nets;" ∈ on_T) (hd : on_dq cc pc 3 pc2 (.getfield idx)) (k : on_G X E cc own rt fr lo nL z n σ x pc2 lv (.ref (z + (b + 14)) :: rest)) : on_G X E cc own rt fr lo nL z n σ x pc lv (.ref (z + b) :: rest) := on_getg 9 13 on_in9 rfl (by decide) hw (ltS_0 hb) (shS_0 hb) rfl hd k
theorem fg_9_14 (hb : on_Sb n b) (hw : Cond.fieldLink own idx "OppositeNets$Street" "jumps" "LOppositeNets$Jumps;" ∈ on_T) (hd : on_dq cc pc 3 pc2 (.getfield idx)) (k : on_G X E cc own rt fr lo nL z n σ x pc2 lv (.ref (z + (b + 20)) :: rest)) : on_G X E cc own rt fr lo nL z n σ x pc lv (.ref (z + b) :: rest) := on_getg 9 14 on_in9 rfl (by decide) hw (ltS_0 hb) (shS_0 hb) rfl hd k
theorem fg_9_15 (hb : on_Sb n b) (hw : Cond.fieldLink own idx "OppositeNets$Street" "left" "[I" ∈ on_T) (hd : on_dq cc pc 3 pc2 (.getfield idx)) (k : on_G X E cc own rt fr lo nL z n σ x pc2 lv (.ref (z + (b + 24)) :: rest)) : on_G X E cc own rt fr lo nL z n σ x pc lv (.ref (z + b) :: rest) := on_getg 9 15 on_in9 rfl (by decide) hw (ltS_0 hb) (shS_0 hb) rfl hd k
theorem fg_10_0 (hN : 100 ≤ n) (hw : Cond.fieldLink own idx "OppositeNets$Witness" "street" "LOppositeNets$Street;" ∈ on_T) (hd : on_dq cc pc 3 pc2 (.getfield idx)) (k : on_G X E cc own rt fr lo nL z n σ x pc2 lv (.ref (z + 2) :: rest)) : on_G X E cc own rt fr lo nL z n σ x pc lv (.ref (z + 67) :: rest) := on_getg 10 0 on_in10 rfl (by decide) hw (ltc_67 hN) sh_67 rfl hd k
theorem fg_10_1 (hN : 100 ≤ n) (hw : Cond.fieldLink own idx "OppositeNets$Witness" "carried" "[I" ∈ on_T) (hd : on_dq cc pc 3 pc2 (.getfield idx)) (k : on_G X E cc own rt fr lo nL z n σ x pc2 lv (.ref (z + 68) :: rest)) : on_G X E cc own rt fr lo nL z n σ x pc lv (.ref (z + 67) :: rest) := on_getg 10 1 on_in10 rfl (by decide) hw (ltc_67 hN) sh_67 rfl hd k
theorem fg_10_2 {kk : Int → Option on_O} (hN : 100 ≤ n) (hw : Cond.fieldLink own idx "OppositeNets$Witness" "waysLeft" "I" ∈ on_T) (hd : on_dq cc pc 3 pc2 (.getfield idx)) (k : ∀ v : Int, on_G X E cc own rt fr lo nL z n σ (kk v) pc2 lv (.int (on_i v) :: rest)) : on_G X E cc own rt fr lo nL z n σ (on_Gt σ 67 2 kk) pc lv (.ref (z + 67) :: rest) := on_getg 10 2 on_in10 rfl (by decide) hw (ltc_67 hN) sh_67 rfl hd (k _)
theorem fp_10_2 {kk : on_S → Option on_O} (hN : 100 ≤ n) (hw : Cond.fieldLink own idx "OppositeNets$Witness" "waysLeft" "I" ∈ on_T) (hd : on_dq cc pc 3 pc2 (.putfield idx)) (k : ∀ σ2 : on_S, on_G X E cc own rt fr lo nL z n σ2 (kk σ2) pc2 lv rest) : on_G X E cc own rt fr lo nL z n σ (on_Pt σ 67 2 a kk) pc lv (.int (on_i a) :: .ref (z + 67) :: rest) := on_putg 10 2 on_in10 tyX10 tyX10_ok nmX10 rfl (by decide) rfl (by decide +kernel) (fun r => by simp [on_fl]) (by simp [on_fl]) hw (ltc_67 hN) sh_67 hd k
theorem fg_10_3 {kk : Int → Option on_O} (hN : 100 ≤ n) (hw : Cond.fieldLink own idx "OppositeNets$Witness" "alwaysWet" "I" ∈ on_T) (hd : on_dq cc pc 3 pc2 (.getfield idx)) (k : ∀ v : Int, on_G X E cc own rt fr lo nL z n σ (kk v) pc2 lv (.int (on_i v) :: rest)) : on_G X E cc own rt fr lo nL z n σ (on_Gt σ 67 3 kk) pc lv (.ref (z + 67) :: rest) := on_getg 10 3 on_in10 rfl (by decide) hw (ltc_67 hN) sh_67 rfl hd (k _)
theorem fp_10_3 {kk : on_S → Option on_O} (hN : 100 ≤ n) (hw : Cond.fieldLink own idx "OppositeNets$Witness" "alwaysWet" "I" ∈ on_T) (hd : on_dq cc pc 3 pc2 (.putfield idx)) (k : ∀ σ2 : on_S, on_G X E cc own rt fr lo nL z n σ2 (kk σ2) pc2 lv rest) : on_G X E cc own rt fr lo nL z n σ (on_Pt σ 67 3 a kk) pc lv (.int (on_i a) :: .ref (z + 67) :: rest) := on_putg 10 3 on_in10 tyX10 tyX10_ok nmX10 rfl (by decide) rfl (by decide +kernel) (fun r => by simp [on_fl]) (by simp [on_fl]) hw (ltc_67 hN) sh_67 hd k
theorem fg_10_4 {kk : Int → Option on_O} (hN : 100 ≤ n) (hw : Cond.fieldLink own idx "OppositeNets$Witness" "alwaysDry" "I" ∈ on_T) (hd : on_dq cc pc 3 pc2 (.getfield idx)) (k : ∀ v : Int, on_G X E cc own rt fr lo nL z n σ (kk v) pc2 lv (.int (on_i v) :: rest)) : on_G X E cc own rt fr lo nL z n σ (on_Gt σ 67 4 kk) pc lv (.ref (z + 67) :: rest) := on_getg 10 4 on_in10 rfl (by decide) hw (ltc_67 hN) sh_67 rfl hd (k _)
theorem fp_10_4 {kk : on_S → Option on_O} (hN : 100 ≤ n) (hw : Cond.fieldLink own idx "OppositeNets$Witness" "alwaysDry" "I" ∈ on_T) (hd : on_dq cc pc 3 pc2 (.putfield idx)) (k : ∀ σ2 : on_S, on_G X E cc own rt fr lo nL z n σ2 (kk σ2) pc2 lv rest) : on_G X E cc own rt fr lo nL z n σ (on_Pt σ 67 4 a kk) pc lv (.int (on_i a) :: .ref (z + 67) :: rest) := on_putg 10 4 on_in10 tyX10 tyX10_ok nmX10 rfl (by decide) rfl (by decide +kernel) (fun r => by simp [on_fl]) (by simp [on_fl]) hw (ltc_67 hN) sh_67 hd k
theorem fg_11_0 (hN : 100 ≤ n) (hw : Cond.fieldLink own idx "OppositeNets" "tape" "[B" ∈ on_T) (hd : on_dq cc pc 3 pc2 (.getfield idx)) (k : on_G X E cc own rt fr lo nL z n σ x pc2 lv (.ref (z + 1) :: rest)) : on_G X E cc own rt fr lo nL z n σ x pc lv (.ref (z + 0) :: rest) := on_getg 11 0 on_in11 rfl (by decide) hw (ltc_0 hN) sh_0 rfl hd k
theorem fg_11_1 {kk : Int → Option on_O} (hN : 100 ≤ n) (hw : Cond.fieldLink own idx "OppositeNets" "taped" "I" ∈ on_T) (hd : on_dq cc pc 3 pc2 (.getfield idx)) (k : ∀ v : Int, on_G X E cc own rt fr lo nL z n σ (kk v) pc2 lv (.int (on_i v) :: rest)) : on_G X E cc own rt fr lo nL z n σ (on_Gt σ 0 1 kk) pc lv (.ref (z + 0) :: rest) := on_getg 11 1 on_in11 rfl (by decide) hw (ltc_0 hN) sh_0 rfl hd (k _)
theorem fp_11_1 {kk : on_S → Option on_O} (hN : 100 ≤ n) (hw : Cond.fieldLink own idx "OppositeNets" "taped" "I" ∈ on_T) (hd : on_dq cc pc 3 pc2 (.putfield idx)) (k : ∀ σ2 : on_S, on_G X E cc own rt fr lo nL z n σ2 (kk σ2) pc2 lv rest) : on_G X E cc own rt fr lo nL z n σ (on_Pt σ 0 1 a kk) pc lv (.int (on_i a) :: .ref (z + 0) :: rest) := on_putg 11 1 on_in11 tyX11 tyX11_ok nmX11 rfl (by decide) rfl (by decide +kernel) (fun r => by simp [on_fl]) (by simp [on_fl]) hw (ltc_0 hN) sh_0 hd k
theorem fg_11_2 (hN : 100 ≤ n) (hw : Cond.fieldLink own idx "OppositeNets" "street" "LOppositeNets$Street;" ∈ on_T) (hd : on_dq cc pc 3 pc2 (.getfield idx)) (k : on_G X E cc own rt fr lo nL z n σ x pc2 lv (.ref (z + 2) :: rest)) : on_G X E cc own rt fr lo nL z n σ x pc lv (.ref (z + 0) :: rest) := on_getg 11 2 on_in11 rfl (by decide) hw (ltc_0 hN) sh_0 rfl hd k
theorem fg_11_3 (hN : 100 ≤ n) (hw : Cond.fieldLink own idx "OppositeNets" "draft" "LOppositeNets$Street;" ∈ on_T) (hd : on_dq cc pc 3 pc2 (.getfield idx)) (k : on_G X E cc own rt fr lo nL z n σ x pc2 lv (.ref (z + 27) :: rest)) : on_G X E cc own rt fr lo nL z n σ x pc lv (.ref (z + 0) :: rest) := on_getg 11 3 on_in11 rfl (by decide) hw (ltc_0 hN) sh_0 rfl hd k
theorem fg_11_4 (hN : 100 ≤ n) (hw : Cond.fieldLink own idx "OppositeNets" "reader" "LOppositeNets$Reader;" ∈ on_T) (hd : on_dq cc pc 3 pc2 (.getfield idx)) (k : on_G X E cc own rt fr lo nL z n σ x pc2 lv (.ref (z + 52) :: rest)) : on_G X E cc own rt fr lo nL z n σ x pc lv (.ref (z + 0) :: rest) := on_getg 11 4 on_in11 rfl (by decide) hw (ltc_0 hN) sh_0 rfl hd k
theorem fg_11_5 (hN : 100 ≤ n) (hw : Cond.fieldLink own idx "OppositeNets" "images" "[LOppositeNets$Street;" ∈ on_T) (hd : on_dq cc pc 3 pc2 (.getfield idx)) (k : on_G X E cc own rt fr lo nL z n σ x pc2 lv (.ref (z + 53) :: rest)) : on_G X E cc own rt fr lo nL z n σ x pc lv (.ref (z + 0) :: rest) := on_getg 11 5 on_in11 rfl (by decide) hw (ltc_0 hN) sh_0 rfl hd k
theorem fg_11_6 (hN : 100 ≤ n) (hw : Cond.fieldLink own idx "OppositeNets" "slots" "[LOppositeNets$Slot;" ∈ on_T) (hd : on_dq cc pc 3 pc2 (.getfield idx)) (k : on_G X E cc own rt fr lo nL z n σ x pc2 lv (.ref (z + 54) :: rest)) : on_G X E cc own rt fr lo nL z n σ x pc lv (.ref (z + 0) :: rest) := on_getg 11 6 on_in11 rfl (by decide) hw (ltc_0 hN) sh_0 rfl hd k
theorem fg_11_7 (hN : 100 ≤ n) (hw : Cond.fieldLink own idx "OppositeNets" "rings" "LOppositeNets$Rings;" ∈ on_T) (hd : on_dq cc pc 3 pc2 (.getfield idx)) (k : on_G X E cc own rt fr lo nL z n σ x pc2 lv (.ref (z + 55) :: rest)) : on_G X E cc own rt fr lo nL z n σ x pc lv (.ref (z + 0) :: rest) := on_getg 11 7 on_in11 rfl (by decide) hw (ltc_0 hN) sh_0 rfl hd k
theorem fg_11_8 (hN : 100 ≤ n) (hw : Cond.fieldLink own idx "OppositeNets" "guard" "LOppositeNets$Guard;" ∈ on_T) (hd : on_dq cc pc 3 pc2 (.getfield idx)) (k : on_G X E cc own rt fr lo nL z n σ x pc2 lv (.ref (z + 59) :: rest)) : on_G X E cc own rt fr lo nL z n σ x pc lv (.ref (z + 0) :: rest) := on_getg 11 8 on_in11 rfl (by decide) hw (ltc_0 hN) sh_0 rfl hd k
theorem fg_11_9 (hN : 100 ≤ n) (hw : Cond.fieldLink own idx "OppositeNets" "alarms" "LOppositeNets$Alarms;" ∈ on_T) (hd : on_dq cc pc 3 pc2 (.getfield idx)) (k : on_G X E cc own rt fr lo nL z n σ x pc2 lv (.ref (z + 63) :: rest)) : on_G X E cc own rt fr lo nL z n σ x pc lv (.ref (z + 0) :: rest) := on_getg 11 9 on_in11 rfl (by decide) hw (ltc_0 hN) sh_0 rfl hd k
theorem fg_11_10 (hN : 100 ≤ n) (hw : Cond.fieldLink own idx "OppositeNets" "nights" "LOppositeNets$Nights;" ∈ on_T) (hd : on_dq cc pc 3 pc2 (.getfield idx)) (k : on_G X E cc own rt fr lo nL z n σ x pc2 lv (.ref (z + 65) :: rest)) : on_G X E cc own rt fr lo nL z n σ x pc lv (.ref (z + 0) :: rest) := on_getg 11 10 on_in11 rfl (by decide) hw (ltc_0 hN) sh_0 rfl hd k
theorem fg_11_11 (hN : 100 ≤ n) (hw : Cond.fieldLink own idx "OppositeNets" "witness" "LOppositeNets$Witness;" ∈ on_T) (hd : on_dq cc pc 3 pc2 (.getfield idx)) (k : on_G X E cc own rt fr lo nL z n σ x pc2 lv (.ref (z + 67) :: rest)) : on_G X E cc own rt fr lo nL z n σ x pc lv (.ref (z + 0) :: rest) := on_getg 11 11 on_in11 rfl (by decide) hw (ltc_0 hN) sh_0 rfl hd k
theorem fg_12_0 {kk : Int → Option on_O} (hN : 100 ≤ n) (hw : Cond.fieldLink own idx "OppositeNetsModel" "thrown" "I" ∈ on_T) (hd : on_dq cc pc 3 pc2 (.getfield idx)) (k : ∀ v : Int, on_G X E cc own rt fr lo nL z n σ (kk v) pc2 lv (.int (on_i v) :: rest)) : on_G X E cc own rt fr lo nL z n σ (on_Gt σ 77 0 kk) pc lv (.ref (z + 77) :: rest) := on_getg 12 0 on_in12 rfl (by decide) hw (ltc_77 hN) sh_77 rfl hd (k _)
theorem fp_12_0 {kk : on_S → Option on_O} (hN : 100 ≤ n) (hw : Cond.fieldLink own idx "OppositeNetsModel" "thrown" "I" ∈ on_T) (hd : on_dq cc pc 3 pc2 (.putfield idx)) (k : ∀ σ2 : on_S, on_G X E cc own rt fr lo nL z n σ2 (kk σ2) pc2 lv rest) : on_G X E cc own rt fr lo nL z n σ (on_Pt σ 77 0 a kk) pc lv (.int (on_i a) :: .ref (z + 77) :: rest) := on_putg 12 0 on_in12 tyX12 tyX12_ok nmX12 rfl (by decide) rfl (by decide +kernel) (fun r => by simp [on_fl]) (by simp [on_fl]) hw (ltc_77 hN) sh_77 hd k
theorem fg_12_1 (hN : 100 ≤ n) (hw : Cond.fieldLink own idx "OppositeNetsModel" "world" "[I" ∈ on_T) (hd : on_dq cc pc 3 pc2 (.getfield idx)) (k : on_G X E cc own rt fr lo nL z n σ x pc2 lv (.ref (z + 78) :: rest)) : on_G X E cc own rt fr lo nL z n σ x pc lv (.ref (z + 77) :: rest) := on_getg 12 1 on_in12 rfl (by decide) hw (ltc_77 hN) sh_77 rfl hd k
theorem fg_12_2 (hN : 100 ≤ n) (hw : Cond.fieldLink own idx "OppositeNetsModel" "images" "[I" ∈ on_T) (hd : on_dq cc pc 3 pc2 (.getfield idx)) (k : on_G X E cc own rt fr lo nL z n σ x pc2 lv (.ref (z + 79) :: rest)) : on_G X E cc own rt fr lo nL z n σ x pc lv (.ref (z + 77) :: rest) := on_getg 12 2 on_in12 rfl (by decide) hw (ltc_77 hN) sh_77 rfl hd k
theorem fg_12_3 (hN : 100 ≤ n) (hw : Cond.fieldLink own idx "OppositeNetsModel" "hasImage" "[Z" ∈ on_T) (hd : on_dq cc pc 3 pc2 (.getfield idx)) (k : on_G X E cc own rt fr lo nL z n σ x pc2 lv (.ref (z + 80) :: rest)) : on_G X E cc own rt fr lo nL z n σ x pc lv (.ref (z + 77) :: rest) := on_getg 12 3 on_in12 rfl (by decide) hw (ltc_77 hN) sh_77 rfl hd k
theorem fg_12_4 (hN : 100 ≤ n) (hw : Cond.fieldLink own idx "OppositeNetsModel" "tape" "[B" ∈ on_T) (hd : on_dq cc pc 3 pc2 (.getfield idx)) (k : on_G X E cc own rt fr lo nL z n σ x pc2 lv (.ref (z + 81) :: rest)) : on_G X E cc own rt fr lo nL z n σ x pc lv (.ref (z + 77) :: rest) := on_getg 12 4 on_in12 rfl (by decide) hw (ltc_77 hN) sh_77 rfl hd k
theorem fg_12_5 {kk : Int → Option on_O} (hN : 100 ≤ n) (hw : Cond.fieldLink own idx "OppositeNetsModel" "taped" "I" ∈ on_T) (hd : on_dq cc pc 3 pc2 (.getfield idx)) (k : ∀ v : Int, on_G X E cc own rt fr lo nL z n σ (kk v) pc2 lv (.int (on_i v) :: rest)) : on_G X E cc own rt fr lo nL z n σ (on_Gt σ 77 5 kk) pc lv (.ref (z + 77) :: rest) := on_getg 12 5 on_in12 rfl (by decide) hw (ltc_77 hN) sh_77 rfl hd (k _)
theorem fp_12_5 {kk : on_S → Option on_O} (hN : 100 ≤ n) (hw : Cond.fieldLink own idx "OppositeNetsModel" "taped" "I" ∈ on_T) (hd : on_dq cc pc 3 pc2 (.putfield idx)) (k : ∀ σ2 : on_S, on_G X E cc own rt fr lo nL z n σ2 (kk σ2) pc2 lv rest) : on_G X E cc own rt fr lo nL z n σ (on_Pt σ 77 5 a kk) pc lv (.int (on_i a) :: .ref (z + 77) :: rest) := on_putg 12 5 on_in12 tyX12 tyX12_ok nmX12 rfl (by decide) rfl (by decide +kernel) (fun r => by simp [on_fl]) (by simp [on_fl]) hw (ltc_77 hN) sh_77 hd k
theorem fg_12_6 (hN : 100 ≤ n) (hw : Cond.fieldLink own idx "OppositeNetsModel" "five" "[I" ∈ on_T) (hd : on_dq cc pc 3 pc2 (.getfield idx)) (k : on_G X E cc own rt fr lo nL z n σ x pc2 lv (.ref (z + 82) :: rest)) : on_G X E cc own rt fr lo nL z n σ x pc lv (.ref (z + 77) :: rest) := on_getg 12 6 on_in12 rfl (by decide) hw (ltc_77 hN) sh_77 rfl hd k
theorem fg_12_7 {kk : Int → Option on_O} (hN : 100 ≤ n) (hw : Cond.fieldLink own idx "OppositeNetsModel" "size" "I" ∈ on_T) (hd : on_dq cc pc 3 pc2 (.getfield idx)) (k : ∀ v : Int, on_G X E cc own rt fr lo nL z n σ (kk v) pc2 lv (.int (on_i v) :: rest)) : on_G X E cc own rt fr lo nL z n σ (on_Gt σ 77 7 kk) pc lv (.ref (z + 77) :: rest) := on_getg 12 7 on_in12 rfl (by decide) hw (ltc_77 hN) sh_77 rfl hd (k _)
theorem fp_12_7 {kk : on_S → Option on_O} (hN : 100 ≤ n) (hw : Cond.fieldLink own idx "OppositeNetsModel" "size" "I" ∈ on_T) (hd : on_dq cc pc 3 pc2 (.putfield idx)) (k : ∀ σ2 : on_S, on_G X E cc own rt fr lo nL z n σ2 (kk σ2) pc2 lv rest) : on_G X E cc own rt fr lo nL z n σ (on_Pt σ 77 7 a kk) pc lv (.int (on_i a) :: .ref (z + 77) :: rest) := on_putg 12 7 on_in12 tyX12 tyX12_ok nmX12 rfl (by decide) rfl (by decide +kernel) (fun r => by simp [on_fl]) (by simp [on_fl]) hw (ltc_77 hN) sh_77 hd k
theorem fg_12_8 {kk : Int → Option on_O} (hN : 100 ≤ n) (hw : Cond.fieldLink own idx "OppositeNetsModel" "at" "I" ∈ on_T) (hd : on_dq cc pc 3 pc2 (.getfield idx)) (k : ∀ v : Int, on_G X E cc own rt fr lo nL z n σ (kk v) pc2 lv (.int (on_i v) :: rest)) : on_G X E cc own rt fr lo nL z n σ (on_Gt σ 77 8 kk) pc lv (.ref (z + 77) :: rest) := on_getg 12 8 on_in12 rfl (by decide) hw (ltc_77 hN) sh_77 rfl hd (k _)
theorem fp_12_8 {kk : on_S → Option on_O} (hN : 100 ≤ n) (hw : Cond.fieldLink own idx "OppositeNetsModel" "at" "I" ∈ on_T) (hd : on_dq cc pc 3 pc2 (.putfield idx)) (k : ∀ σ2 : on_S, on_G X E cc own rt fr lo nL z n σ2 (kk σ2) pc2 lv rest) : on_G X E cc own rt fr lo nL z n σ (on_Pt σ 77 8 a kk) pc lv (.int (on_i a) :: .ref (z + 77) :: rest) := on_putg 12 8 on_in12 tyX12 tyX12_ok nmX12 rfl (by decide) rfl (by decide +kernel) (fun r => by simp [on_fl]) (by simp [on_fl]) hw (ltc_77 hN) sh_77 hd k
theorem fg_12_9 {kk : Int → Option on_O} (hN : 100 ≤ n) (hw : Cond.fieldLink own idx "OppositeNetsModel" "from" "I" ∈ on_T) (hd : on_dq cc pc 3 pc2 (.getfield idx)) (k : ∀ v : Int, on_G X E cc own rt fr lo nL z n σ (kk v) pc2 lv (.int (on_i v) :: rest)) : on_G X E cc own rt fr lo nL z n σ (on_Gt σ 77 9 kk) pc lv (.ref (z + 77) :: rest) := on_getg 12 9 on_in12 rfl (by decide) hw (ltc_77 hN) sh_77 rfl hd (k _)
theorem fp_12_9 {kk : on_S → Option on_O} (hN : 100 ≤ n) (hw : Cond.fieldLink own idx "OppositeNetsModel" "from" "I" ∈ on_T) (hd : on_dq cc pc 3 pc2 (.putfield idx)) (k : ∀ σ2 : on_S, on_G X E cc own rt fr lo nL z n σ2 (kk σ2) pc2 lv rest) : on_G X E cc own rt fr lo nL z n σ (on_Pt σ 77 9 a kk) pc lv (.int (on_i a) :: .ref (z + 77) :: rest) := on_putg 12 9 on_in12 tyX12 tyX12_ok nmX12 rfl (by decide) rfl (by decide +kernel) (fun r => by simp [on_fl]) (by simp [on_fl]) hw (ltc_77 hN) sh_77 hd k
theorem fg_12_10 {kk : Int → Option on_O} (hN : 100 ≤ n) (hw : Cond.fieldLink own idx "OppositeNetsModel" "token" "I" ∈ on_T) (hd : on_dq cc pc 3 pc2 (.getfield idx)) (k : ∀ v : Int, on_G X E cc own rt fr lo nL z n σ (kk v) pc2 lv (.int (on_i v) :: rest)) : on_G X E cc own rt fr lo nL z n σ (on_Gt σ 77 10 kk) pc lv (.ref (z + 77) :: rest) := on_getg 12 10 on_in12 rfl (by decide) hw (ltc_77 hN) sh_77 rfl hd (k _)
theorem fp_12_10 {kk : on_S → Option on_O} (hN : 100 ≤ n) (hw : Cond.fieldLink own idx "OppositeNetsModel" "token" "I" ∈ on_T) (hd : on_dq cc pc 3 pc2 (.putfield idx)) (k : ∀ σ2 : on_S, on_G X E cc own rt fr lo nL z n σ2 (kk σ2) pc2 lv rest) : on_G X E cc own rt fr lo nL z n σ (on_Pt σ 77 10 a kk) pc lv (.int (on_i a) :: .ref (z + 77) :: rest) := on_putg 12 10 on_in12 tyX12 tyX12_ok nmX12 rfl (by decide) rfl (by decide +kernel) (fun r => by simp [on_fl]) (by simp [on_fl]) hw (ltc_77 hN) sh_77 hd k
theorem fg_12_11 {kk : Int → Option on_O} (hN : 100 ≤ n) (hw : Cond.fieldLink own idx "OppositeNetsModel" "value" "I" ∈ on_T) (hd : on_dq cc pc 3 pc2 (.getfield idx)) (k : ∀ v : Int, on_G X E cc own rt fr lo nL z n σ (kk v) pc2 lv (.int (on_i v) :: rest)) : on_G X E cc own rt fr lo nL z n σ (on_Gt σ 77 11 kk) pc lv (.ref (z + 77) :: rest) := on_getg 12 11 on_in12 rfl (by decide) hw (ltc_77 hN) sh_77 rfl hd (k _)
theorem fp_12_11 {kk : on_S → Option on_O} (hN : 100 ≤ n) (hw : Cond.fieldLink own idx "OppositeNetsModel" "value" "I" ∈ on_T) (hd : on_dq cc pc 3 pc2 (.putfield idx)) (k : ∀ σ2 : on_S, on_G X E cc own rt fr lo nL z n σ2 (kk σ2) pc2 lv rest) : on_G X E cc own rt fr lo nL z n σ (on_Pt σ 77 11 a kk) pc lv (.int (on_i a) :: .ref (z + 77) :: rest) := on_putg 12 11 on_in12 tyX12 tyX12_ok nmX12 rfl (by decide) rfl (by decide +kernel) (fun r => by simp [on_fl]) (by simp [on_fl]) hw (ltc_77 hN) sh_77 hd k
theorem fg_12_12 {kk : Int → Option on_O} (hN : 100 ≤ n) (hw : Cond.fieldLink own idx "OppositeNetsModel" "faultKind" "I" ∈ on_T) (hd : on_dq cc pc 3 pc2 (.getfield idx)) (k : ∀ v : Int, on_G X E cc own rt fr lo nL z n σ (kk v) pc2 lv (.int (on_i v) :: rest)) : on_G X E cc own rt fr lo nL z n σ (on_Gt σ 77 12 kk) pc lv (.ref (z + 77) :: rest) := on_getg 12 12 on_in12 rfl (by decide) hw (ltc_77 hN) sh_77 rfl hd (k _)
theorem fp_12_12 {kk : on_S → Option on_O} (hN : 100 ≤ n) (hw : Cond.fieldLink own idx "OppositeNetsModel" "faultKind" "I" ∈ on_T) (hd : on_dq cc pc 3 pc2 (.putfield idx)) (k : ∀ σ2 : on_S, on_G X E cc own rt fr lo nL z n σ2 (kk σ2) pc2 lv rest) : on_G X E cc own rt fr lo nL z n σ (on_Pt σ 77 12 a kk) pc lv (.int (on_i a) :: .ref (z + 77) :: rest) := on_putg 12 12 on_in12 tyX12 tyX12_ok nmX12 rfl (by decide) rfl (by decide +kernel) (fun r => by simp [on_fl]) (by simp [on_fl]) hw (ltc_77 hN) sh_77 hd k
theorem fg_12_13 {kk : Int → Option on_O} (hN : 100 ≤ n) (hw : Cond.fieldLink own idx "OppositeNetsModel" "faultPlace" "I" ∈ on_T) (hd : on_dq cc pc 3 pc2 (.getfield idx)) (k : ∀ v : Int, on_G X E cc own rt fr lo nL z n σ (kk v) pc2 lv (.int (on_i v) :: rest)) : on_G X E cc own rt fr lo nL z n σ (on_Gt σ 77 13 kk) pc lv (.ref (z + 77) :: rest) := on_getg 12 13 on_in12 rfl (by decide) hw (ltc_77 hN) sh_77 rfl hd (k _)
theorem fp_12_13 {kk : on_S → Option on_O} (hN : 100 ≤ n) (hw : Cond.fieldLink own idx "OppositeNetsModel" "faultPlace" "I" ∈ on_T) (hd : on_dq cc pc 3 pc2 (.putfield idx)) (k : ∀ σ2 : on_S, on_G X E cc own rt fr lo nL z n σ2 (kk σ2) pc2 lv rest) : on_G X E cc own rt fr lo nL z n σ (on_Pt σ 77 13 a kk) pc lv (.int (on_i a) :: .ref (z + 77) :: rest) := on_putg 12 13 on_in12 tyX12 tyX12_ok nmX12 rfl (by decide) rfl (by decide +kernel) (fun r => by simp [on_fl]) (by simp [on_fl]) hw (ltc_77 hN) sh_77 hd k
theorem fg_12_14 (hN : 100 ≤ n) (hw : Cond.fieldLink own idx "OppositeNetsModel" "fresh" "[I" ∈ on_T) (hd : on_dq cc pc 3 pc2 (.getfield idx)) (k : on_G X E cc own rt fr lo nL z n σ x pc2 lv (.ref (z + 83) :: rest)) : on_G X E cc own rt fr lo nL z n σ x pc lv (.ref (z + 77) :: rest) := on_getg 12 14 on_in12 rfl (by decide) hw (ltc_77 hN) sh_77 rfl hd k
theorem fg_12_15 (hN : 100 ≤ n) (hw : Cond.fieldLink own idx "OppositeNetsModel" "post" "[I" ∈ on_T) (hd : on_dq cc pc 3 pc2 (.getfield idx)) (k : on_G X E cc own rt fr lo nL z n σ x pc2 lv (.ref (z + 84) :: rest)) : on_G X E cc own rt fr lo nL z n σ x pc lv (.ref (z + 77) :: rest) := on_getg 12 15 on_in12 rfl (by decide) hw (ltc_77 hN) sh_77 rfl hd k
theorem fg_12_16 {kk : Int → Option on_O} (hN : 100 ≤ n) (hw : Cond.fieldLink own idx "OppositeNetsModel" "gave" "I" ∈ on_T) (hd : on_dq cc pc 3 pc2 (.getfield idx)) (k : ∀ v : Int, on_G X E cc own rt fr lo nL z n σ (kk v) pc2 lv (.int (on_i v) :: rest)) : on_G X E cc own rt fr lo nL z n σ (on_Gt σ 77 16 kk) pc lv (.ref (z + 77) :: rest) := on_getg 12 16 on_in12 rfl (by decide) hw (ltc_77 hN) sh_77 rfl hd (k _)
theorem fp_12_16 {kk : on_S → Option on_O} (hN : 100 ≤ n) (hw : Cond.fieldLink own idx "OppositeNetsModel" "gave" "I" ∈ on_T) (hd : on_dq cc pc 3 pc2 (.putfield idx)) (k : ∀ σ2 : on_S, on_G X E cc own rt fr lo nL z n σ2 (kk σ2) pc2 lv rest) : on_G X E cc own rt fr lo nL z n σ (on_Pt σ 77 16 a kk) pc lv (.int (on_i a) :: .ref (z + 77) :: rest) := on_putg 12 16 on_in12 tyX12 tyX12_ok nmX12 rfl (by decide) rfl (by decide +kernel) (fun r => by simp [on_fl]) (by simp [on_fl]) hw (ltc_77 hN) sh_77 hd k
theorem fg_12_17 (hN : 100 ≤ n) (hw : Cond.fieldLink own idx "OppositeNetsModel" "keptKnots" "[I" ∈ on_T) (hd : on_dq cc pc 3 pc2 (.getfield idx)) (k : on_G X E cc own rt fr lo nL z n σ x pc2 lv (.ref (z + 85) :: rest)) : on_G X E cc own rt fr lo nL z n σ x pc lv (.ref (z + 77) :: rest) := on_getg 12 17 on_in12 rfl (by decide) hw (ltc_77 hN) sh_77 rfl hd k
theorem fg_12_18 {kk : Int → Option on_O} (hN : 100 ≤ n) (hw : Cond.fieldLink own idx "OppositeNetsModel" "houses" "I" ∈ on_T) (hd : on_dq cc pc 3 pc2 (.getfield idx)) (k : ∀ v : Int, on_G X E cc own rt fr lo nL z n σ (kk v) pc2 lv (.int (on_i v) :: rest)) : on_G X E cc own rt fr lo nL z n σ (on_Gt σ 77 18 kk) pc lv (.ref (z + 77) :: rest) := on_getg 12 18 on_in12 rfl (by decide) hw (ltc_77 hN) sh_77 rfl hd (k _)
theorem fp_12_18 {kk : on_S → Option on_O} (hN : 100 ≤ n) (hw : Cond.fieldLink own idx "OppositeNetsModel" "houses" "I" ∈ on_T) (hd : on_dq cc pc 3 pc2 (.putfield idx)) (k : ∀ σ2 : on_S, on_G X E cc own rt fr lo nL z n σ2 (kk σ2) pc2 lv rest) : on_G X E cc own rt fr lo nL z n σ (on_Pt σ 77 18 a kk) pc lv (.int (on_i a) :: .ref (z + 77) :: rest) := on_putg 12 18 on_in12 tyX12 tyX12_ok nmX12 rfl (by decide) rfl (by decide +kernel) (fun r => by simp [on_fl]) (by simp [on_fl]) hw (ltc_77 hN) sh_77 hd k
theorem fg_12_19 (hN : 100 ≤ n) (hw : Cond.fieldLink own idx "OppositeNetsModel" "bestPost" "[I" ∈ on_T) (hd : on_dq cc pc 3 pc2 (.getfield idx)) (k : on_G X E cc own rt fr lo nL z n σ x pc2 lv (.ref (z + 86) :: rest)) : on_G X E cc own rt fr lo nL z n σ x pc lv (.ref (z + 77) :: rest) := on_getg 12 19 on_in12 rfl (by decide) hw (ltc_77 hN) sh_77 rfl hd k
theorem fg_12_20 (hN : 100 ≤ n) (hw : Cond.fieldLink own idx "OppositeNetsModel" "rowMen" "[I" ∈ on_T) (hd : on_dq cc pc 3 pc2 (.getfield idx)) (k : on_G X E cc own rt fr lo nL z n σ x pc2 lv (.ref (z + 87) :: rest)) : on_G X E cc own rt fr lo nL z n σ x pc lv (.ref (z + 77) :: rest) := on_getg 12 20 on_in12 rfl (by decide) hw (ltc_77 hN) sh_77 rfl hd k
theorem fg_12_21 (hN : 100 ≤ n) (hw : Cond.fieldLink own idx "OppositeNetsModel" "rowPosts" "[I" ∈ on_T) (hd : on_dq cc pc 3 pc2 (.getfield idx)) (k : on_G X E cc own rt fr lo nL z n σ x pc2 lv (.ref (z + 88) :: rest)) : on_G X E cc own rt fr lo nL z n σ x pc lv (.ref (z + 77) :: rest) := on_getg 12 21 on_in12 rfl (by decide) hw (ltc_77 hN) sh_77 rfl hd k
theorem fg_12_22 (hN : 100 ≤ n) (hw : Cond.fieldLink own idx "OppositeNetsModel" "rowQuarrels" "[I" ∈ on_T) (hd : on_dq cc pc 3 pc2 (.getfield idx)) (k : on_G X E cc own rt fr lo nL z n σ x pc2 lv (.ref (z + 89) :: rest)) : on_G X E cc own rt fr lo nL z n σ x pc lv (.ref (z + 77) :: rest) := on_getg 12 22 on_in12 rfl (by decide) hw (ltc_77 hN) sh_77 rfl hd k
theorem fg_12_23 (hN : 100 ≤ n) (hw : Cond.fieldLink own idx "OppositeNetsModel" "rowsMany" "[I" ∈ on_T) (hd : on_dq cc pc 3 pc2 (.getfield idx)) (k : on_G X E cc own rt fr lo nL z n σ x pc2 lv (.ref (z + 90) :: rest)) : on_G X E cc own rt fr lo nL z n σ x pc lv (.ref (z + 77) :: rest) := on_getg 12 23 on_in12 rfl (by decide) hw (ltc_77 hN) sh_77 rfl hd k
theorem fg_12_24 {kk : Int → Option on_O} (hN : 100 ≤ n) (hw : Cond.fieldLink own idx "OppositeNetsModel" "safeQuarrels" "I" ∈ on_T) (hd : on_dq cc pc 3 pc2 (.getfield idx)) (k : ∀ v : Int, on_G X E cc own rt fr lo nL z n σ (kk v) pc2 lv (.int (on_i v) :: rest)) : on_G X E cc own rt fr lo nL z n σ (on_Gt σ 77 24 kk) pc lv (.ref (z + 77) :: rest) := on_getg 12 24 on_in12 rfl (by decide) hw (ltc_77 hN) sh_77 rfl hd (k _)
theorem fp_12_24 {kk : on_S → Option on_O} (hN : 100 ≤ n) (hw : Cond.fieldLink own idx "OppositeNetsModel" "safeQuarrels" "I" ∈ on_T) (hd : on_dq cc pc 3 pc2 (.putfield idx)) (k : ∀ σ2 : on_S, on_G X E cc own rt fr lo nL z n σ2 (kk σ2) pc2 lv rest) : on_G X E cc own rt fr lo nL z n σ (on_Pt σ 77 24 a kk) pc lv (.int (on_i a) :: .ref (z + 77) :: rest) := on_putg 12 24 on_in12 tyX12 tyX12_ok nmX12 rfl (by decide) rfl (by decide +kernel) (fun r => by simp [on_fl]) (by simp [on_fl]) hw (ltc_77 hN) sh_77 hd k
theorem fg_12_25 {kk : Int → Option on_O} (hN : 100 ≤ n) (hw : Cond.fieldLink own idx "OppositeNetsModel" "safeWays" "I" ∈ on_T) (hd : on_dq cc pc 3 pc2 (.getfield idx)) (k : ∀ v : Int, on_G X E cc own rt fr lo nL z n σ (kk v) pc2 lv (.int (on_i v) :: rest)) : on_G X E cc own rt fr lo nL z n σ (on_Gt σ 77 25 kk) pc lv (.ref (z + 77) :: rest) := on_getg 12 25 on_in12 rfl (by decide) hw (ltc_77 hN) sh_77 rfl hd (k _)
theorem fp_12_25 {kk : on_S → Option on_O} (hN : 100 ≤ n) (hw : Cond.fieldLink own idx "OppositeNetsModel" "safeWays" "I" ∈ on_T) (hd : on_dq cc pc 3 pc2 (.putfield idx)) (k : ∀ σ2 : on_S, on_G X E cc own rt fr lo nL z n σ2 (kk σ2) pc2 lv rest) : on_G X E cc own rt fr lo nL z n σ (on_Pt σ 77 25 a kk) pc lv (.int (on_i a) :: .ref (z + 77) :: rest) := on_putg 12 25 on_in12 tyX12 tyX12_ok nmX12 rfl (by decide) rfl (by decide +kernel) (fun r => by simp [on_fl]) (by simp [on_fl]) hw (ltc_77 hN) sh_77 hd k
theorem fg_12_26 (hN : 100 ≤ n) (hw : Cond.fieldLink own idx "OppositeNetsModel" "safeRow" "[I" ∈ on_T) (hd : on_dq cc pc 3 pc2 (.getfield idx)) (k : on_G X E cc own rt fr lo nL z n σ x pc2 lv (.ref (z + 91) :: rest)) : on_G X E cc own rt fr lo nL z n σ x pc lv (.ref (z + 77) :: rest) := on_getg 12 26 on_in12 rfl (by decide) hw (ltc_77 hN) sh_77 rfl hd k
theorem fg_12_27 (hN : 100 ≤ n) (hw : Cond.fieldLink own idx "OppositeNetsModel" "keptQuarrels" "[I" ∈ on_T) (hd : on_dq cc pc 3 pc2 (.getfield idx)) (k : on_G X E cc own rt fr lo nL z n σ x pc2 lv (.ref (z + 92) :: rest)) : on_G X E cc own rt fr lo nL z n σ x pc lv (.ref (z + 77) :: rest) := on_getg 12 27 on_in12 rfl (by decide) hw (ltc_77 hN) sh_77 rfl hd k
theorem fg_12_28 (hN : 100 ≤ n) (hw : Cond.fieldLink own idx "OppositeNetsModel" "minutes" "[I" ∈ on_T) (hd : on_dq cc pc 3 pc2 (.getfield idx)) (k : on_G X E cc own rt fr lo nL z n σ x pc2 lv (.ref (z + 93) :: rest)) : on_G X E cc own rt fr lo nL z n σ x pc lv (.ref (z + 77) :: rest) := on_getg 12 28 on_in12 rfl (by decide) hw (ltc_77 hN) sh_77 rfl hd k
theorem fg_12_29 (hN : 100 ≤ n) (hw : Cond.fieldLink own idx "OppositeNetsModel" "keptWet" "[I" ∈ on_T) (hd : on_dq cc pc 3 pc2 (.getfield idx)) (k : on_G X E cc own rt fr lo nL z n σ x pc2 lv (.ref (z + 94) :: rest)) : on_G X E cc own rt fr lo nL z n σ x pc lv (.ref (z + 77) :: rest) := on_getg 12 29 on_in12 rfl (by decide) hw (ltc_77 hN) sh_77 rfl hd k
theorem fg_12_30 (hN : 100 ≤ n) (hw : Cond.fieldLink own idx "OppositeNetsModel" "worth" "[I" ∈ on_T) (hd : on_dq cc pc 3 pc2 (.getfield idx)) (k : on_G X E cc own rt fr lo nL z n σ x pc2 lv (.ref (z + 95) :: rest)) : on_G X E cc own rt fr lo nL z n σ x pc lv (.ref (z + 77) :: rest) := on_getg 12 30 on_in12 rfl (by decide) hw (ltc_77 hN) sh_77 rfl hd k
theorem fg_12_31 {kk : Int → Option on_O} (hN : 100 ≤ n) (hw : Cond.fieldLink own idx "OppositeNetsModel" "nightHeld" "I" ∈ on_T) (hd : on_dq cc pc 3 pc2 (.getfield idx)) (k : ∀ v : Int, on_G X E cc own rt fr lo nL z n σ (kk v) pc2 lv (.int (on_i v) :: rest)) : on_G X E cc own rt fr lo nL z n σ (on_Gt σ 77 31 kk) pc lv (.ref (z + 77) :: rest) := on_getg 12 31 on_in12 rfl (by decide) hw (ltc_77 hN) sh_77 rfl hd (k _)
theorem fp_12_31 {kk : on_S → Option on_O} (hN : 100 ≤ n) (hw : Cond.fieldLink own idx "OppositeNetsModel" "nightHeld" "I" ∈ on_T) (hd : on_dq cc pc 3 pc2 (.putfield idx)) (k : ∀ σ2 : on_S, on_G X E cc own rt fr lo nL z n σ2 (kk σ2) pc2 lv rest) : on_G X E cc own rt fr lo nL z n σ (on_Pt σ 77 31 a kk) pc lv (.int (on_i a) :: .ref (z + 77) :: rest) := on_putg 12 31 on_in12 tyX12 tyX12_ok nmX12 rfl (by decide) rfl (by decide +kernel) (fun r => by simp [on_fl]) (by simp [on_fl]) hw (ltc_77 hN) sh_77 hd k
theorem fg_12_32 {kk : Int → Option on_O} (hN : 100 ≤ n) (hw : Cond.fieldLink own idx "OppositeNetsModel" "nightFirst" "I" ∈ on_T) (hd : on_dq cc pc 3 pc2 (.getfield idx)) (k : ∀ v : Int, on_G X E cc own rt fr lo nL z n σ (kk v) pc2 lv (.int (on_i v) :: rest)) : on_G X E cc own rt fr lo nL z n σ (on_Gt σ 77 32 kk) pc lv (.ref (z + 77) :: rest) := on_getg 12 32 on_in12 rfl (by decide) hw (ltc_77 hN) sh_77 rfl hd (k _)
theorem fp_12_32 {kk : on_S → Option on_O} (hN : 100 ≤ n) (hw : Cond.fieldLink own idx "OppositeNetsModel" "nightFirst" "I" ∈ on_T) (hd : on_dq cc pc 3 pc2 (.putfield idx)) (k : ∀ σ2 : on_S, on_G X E cc own rt fr lo nL z n σ2 (kk σ2) pc2 lv rest) : on_G X E cc own rt fr lo nL z n σ (on_Pt σ 77 32 a kk) pc lv (.int (on_i a) :: .ref (z + 77) :: rest) := on_putg 12 32 on_in12 tyX12 tyX12_ok nmX12 rfl (by decide) rfl (by decide +kernel) (fun r => by simp [on_fl]) (by simp [on_fl]) hw (ltc_77 hN) sh_77 hd k
theorem fg_12_33 (hN : 100 ≤ n) (hw : Cond.fieldLink own idx "OppositeNetsModel" "many" "[I" ∈ on_T) (hd : on_dq cc pc 3 pc2 (.getfield idx)) (k : on_G X E cc own rt fr lo nL z n σ x pc2 lv (.ref (z + 96) :: rest)) : on_G X E cc own rt fr lo nL z n σ x pc lv (.ref (z + 77) :: rest) := on_getg 12 33 on_in12 rfl (by decide) hw (ltc_77 hN) sh_77 rfl hd k
theorem fg_12_34 (hN : 100 ≤ n) (hw : Cond.fieldLink own idx "OppositeNetsModel" "width" "[I" ∈ on_T) (hd : on_dq cc pc 3 pc2 (.getfield idx)) (k : on_G X E cc own rt fr lo nL z n σ x pc2 lv (.ref (z + 97) :: rest)) : on_G X E cc own rt fr lo nL z n σ x pc lv (.ref (z + 77) :: rest) := on_getg 12 34 on_in12 rfl (by decide) hw (ltc_77 hN) sh_77 rfl hd k
theorem fg_12_35 (hN : 100 ≤ n) (hw : Cond.fieldLink own idx "OppositeNetsModel" "numbers" "[J" ∈ on_T) (hd : on_dq cc pc 3 pc2 (.getfield idx)) (k : on_G X E cc own rt fr lo nL z n σ x pc2 lv (.ref (z + 98) :: rest)) : on_G X E cc own rt fr lo nL z n σ x pc lv (.ref (z + 77) :: rest) := on_getg 12 35 on_in12 rfl (by decide) hw (ltc_77 hN) sh_77 rfl hd k
theorem fg_12_36 (hN : 100 ≤ n) (hw : Cond.fieldLink own idx "OppositeNetsModel" "moving" "[J" ∈ on_T) (hd : on_dq cc pc 3 pc2 (.getfield idx)) (k : on_G X E cc own rt fr lo nL z n σ x pc2 lv (.ref (z + 99) :: rest)) : on_G X E cc own rt fr lo nL z n σ x pc lv (.ref (z + 77) :: rest) := on_getg 12 36 on_in12 rfl (by decide) hw (ltc_77 hN) sh_77 rfl hd k
end ON10
theorem bp_m8 : (Int8.ofInt (-8)).toInt32 = on_i (-8) := by decide +kernel
theorem bp_m7 : (Int8.ofInt (-7)).toInt32 = on_i (-7) := by decide +kernel
theorem bp_m6 : (Int8.ofInt (-6)).toInt32 = on_i (-6) := by decide +kernel
theorem bp_m5 : (Int8.ofInt (-5)).toInt32 = on_i (-5) := by decide +kernel
theorem bp_m4 : (Int8.ofInt (-4)).toInt32 = on_i (-4) := by decide +kernel
theorem bp_m3 : (Int8.ofInt (-3)).toInt32 = on_i (-3) := by decide +kernel
theorem bp_m2 : (Int8.ofInt (-2)).toInt32 = on_i (-2) := by decide +kernel
theorem bp_6 : (Int8.ofInt 6).toInt32 = on_i 6 := by decide +kernel
theorem bp_7 : (Int8.ofInt 7).toInt32 = on_i 7 := by decide +kernel
theorem bp_8 : (Int8.ofInt 8).toInt32 = on_i 8 := by decide +kernel
theorem bp_9 : (Int8.ofInt 9).toInt32 = on_i 9 := by decide +kernel
theorem bp_10 : (Int8.ofInt 10).toInt32 = on_i 10 := by decide +kernel
theorem bp_12 : (Int8.ofInt 12).toInt32 = on_i 12 := by decide +kernel
theorem bp_15 : (Int8.ofInt 15).toInt32 = on_i 15 := by decide +kernel
theorem bp_16 : (Int8.ofInt 16).toInt32 = on_i 16 := by decide +kernel
theorem bp_20 : (Int8.ofInt 20).toInt32 = on_i 20 := by decide +kernel
theorem bp_24 : (Int8.ofInt 24).toInt32 = on_i 24 := by decide +kernel
theorem bp_26 : (Int8.ofInt 26).toInt32 = on_i 26 := by decide +kernel
theorem bp_32 : (Int8.ofInt 32).toInt32 = on_i 32 := by decide +kernel
theorem bp_48 : (Int8.ofInt 48).toInt32 = on_i 48 := by decide +kernel
theorem bp_57 : (Int8.ofInt 57).toInt32 = on_i 57 := by decide +kernel
theorem bp_59 : (Int8.ofInt 59).toInt32 = on_i 59 := by decide +kernel
theorem bp_60 : (Int8.ofInt 60).toInt32 = on_i 60 := by decide +kernel
theorem bp_62 : (Int8.ofInt 62).toInt32 = on_i 62 := by decide +kernel
theorem bp_63 : (Int8.ofInt 63).toInt32 = on_i 63 := by decide +kernel
theorem bp_64 : (Int8.ofInt 64).toInt32 = on_i 64 := by decide +kernel
theorem bp_76 : (Int8.ofInt 76).toInt32 = on_i 76 := by decide +kernel
theorem bp_81 : (Int8.ofInt 81).toInt32 = on_i 81 := by decide +kernel
theorem bp_97 : (Int8.ofInt 97).toInt32 = on_i 97 := by decide +kernel
theorem bp_99 : (Int8.ofInt 99).toInt32 = on_i 99 := by decide +kernel
theorem bp_100 : (Int8.ofInt 100).toInt32 = on_i 100 := by decide +kernel
theorem bp_122 : (Int8.ofInt 122).toInt32 = on_i 122 := by decide +kernel
theorem sp_m1000 : (Int16.ofInt (-1000)).toInt32 = on_i (-1000) := by decide +kernel
theorem sp_157 : (Int16.ofInt 157).toInt32 = on_i 157 := by decide +kernel
theorem sp_173 : (Int16.ofInt 173).toInt32 = on_i 173 := by decide +kernel
theorem sp_191 : (Int16.ofInt 191).toInt32 = on_i 191 := by decide +kernel
theorem sp_207 : (Int16.ofInt 207).toInt32 = on_i 207 := by decide +kernel
theorem sp_240 : (Int16.ofInt 240).toInt32 = on_i 240 := by decide +kernel
theorem sp_255 : (Int16.ofInt 255).toInt32 = on_i 255 := by decide +kernel
theorem sp_378 : (Int16.ofInt 378).toInt32 = on_i 378 := by decide +kernel
theorem sp_512 : (Int16.ofInt 512).toInt32 = on_i 512 := by decide +kernel
theorem sp_687 : (Int16.ofInt 687).toInt32 = on_i 687 := by decide +kernel
theorem sp_999 : (Int16.ofInt 999).toInt32 = on_i 999 := by decide +kernel
theorem sp_1000 : (Int16.ofInt 1000).toInt32 = on_i 1000 := by decide +kernel
theorem sp_1024 : (Int16.ofInt 1024).toInt32 = on_i 1024 := by decide +kernel
theorem sp_1400 : (Int16.ofInt 1400).toInt32 = on_i 1400 := by decide +kernel
theorem sp_2061 : (Int16.ofInt 2061).toInt32 = on_i 2061 := by decide +kernel
theorem sp_3100 : (Int16.ofInt 3100).toInt32 = on_i 3100 := by decide +kernel
theorem sp_6200 : (Int16.ofInt 6200).toInt32 = on_i 6200 := by decide +kernel
theorem sp_24800 : (Int16.ofInt 24800).toInt32 = on_i 24800 := by decide +kernel
