def LRt : List (Nat × Nat × Nat) := [(0, 0, 1), (0, 1, 9), (0, 2, 43), (0, 3, 47), (0, 4, 58), (0, 5, 63), (0, 6, 81), (0, 7, 84), (0, 8, 88), (0, 9, 89), (0, 10, 90), (1, 1, 2), (1, 3, 7), (1, 4, 8), (2, 0, 3), (2, 1, 4), (2, 2, 5), (2, 3, 6), (11, 1, 12), (11, 3, 17), (11, 4, 18), (12, 0, 13), (12, 1, 14), (12, 2, 15), (12, 3, 16), (19, 1, 20), (19, 3, 25), (19, 4, 26), (20, 0, 21), (20, 1, 22), (20, 2, 23), (20, 3, 24), (27, 1, 28), (27, 3, 33), (27, 4, 34), (28, 0, 29), (28, 1, 30), (28, 2, 31), (28, 3, 32), (35, 1, 36), (35, 3, 41), (35, 4, 42), (36, 0, 37), (36, 1, 38), (36, 2, 39), (36, 3, 40), (9, 0, 10), (10, 0, 11), (10, 1, 19), (10, 2, 27), (10, 3, 35), (43, 0, 44), (43, 4, 45), (43, 5, 46), (47, 4, 56), (48, 0, 49), (50, 0, 51), (52, 0, 53), (54, 0, 55), (56, 0, 57), (59, 0, 60), (61, 0, 62), (58, 0, 59), (58, 1, 61), (63, 0, 64), (64, 0, 65), (64, 1, 66), (64, 2, 67), (64, 3, 68), (64, 4, 69), (64, 5, 70), (64, 6, 71), (64, 7, 72), (64, 8, 73), (64, 9, 74), (64, 10, 75), (64, 11, 76), (64, 12, 77), (64, 13, 78), (64, 14, 79), (64, 15, 80), (81, 0, 82), (81, 1, 83), (84, 0, 85), (91, 0, 92), (91, 1, 93), (91, 3, 94), (91, 4, 95), (91, 6, 96), (91, 7, 97), (91, 8, 98), (91, 10, 99), (91, 11, 100), (91, 12, 101), (91, 13, 102), (91, 14, 103), (91, 15, 104), (91, 16, 105), (91, 17, 106), (91, 18, 107), (91, 19, 108)]
/-- the references that never change -/
def Lay (σ : pw_Sto) : Prop := σ.1 = 109 ∧ ∀ q ∈ LRt, σ.2.2 q.1 q.2.1 = some q.2.2
theorem lr_0_0 {σ : pw_Sto} (h : Lay σ) : σ.2.2 0 0 = some 1 := h.2 (0, 0, 1) (by decide)
theorem lr_0_1 {σ : pw_Sto} (h : Lay σ) : σ.2.2 0 1 = some 9 := h.2 (0, 1, 9) (by decide)
theorem lr_0_2 {σ : pw_Sto} (h : Lay σ) : σ.2.2 0 2 = some 43 := h.2 (0, 2, 43) (by decide)
theorem lr_0_3 {σ : pw_Sto} (h : Lay σ) : σ.2.2 0 3 = some 47 := h.2 (0, 3, 47) (by decide)
theorem lr_0_4 {σ : pw_Sto} (h : Lay σ) : σ.2.2 0 4 = some 58 := h.2 (0, 4, 58) (by decide)
theorem lr_0_5 {σ : pw_Sto} (h : Lay σ) : σ.2.2 0 5 = some 63 := h.2 (0, 5, 63) (by decide)
theorem lr_0_6 {σ : pw_Sto} (h : Lay σ) : σ.2.2 0 6 = some 81 := h.2 (0, 6, 81) (by decide)
theorem lr_0_7 {σ : pw_Sto} (h : Lay σ) : σ.2.2 0 7 = some 84 := h.2 (0, 7, 84) (by decide)
theorem lr_0_8 {σ : pw_Sto} (h : Lay σ) : σ.2.2 0 8 = some 88 := h.2 (0, 8, 88) (by decide)
theorem lr_0_9 {σ : pw_Sto} (h : Lay σ) : σ.2.2 0 9 = some 89 := h.2 (0, 9, 89) (by decide)
theorem lr_0_10 {σ : pw_Sto} (h : Lay σ) : σ.2.2 0 10 = some 90 := h.2 (0, 10, 90) (by decide)
theorem lr_1_1 {σ : pw_Sto} (h : Lay σ) : σ.2.2 1 1 = some 2 := h.2 (1, 1, 2) (by decide)
theorem lr_1_3 {σ : pw_Sto} (h : Lay σ) : σ.2.2 1 3 = some 7 := h.2 (1, 3, 7) (by decide)
theorem lr_1_4 {σ : pw_Sto} (h : Lay σ) : σ.2.2 1 4 = some 8 := h.2 (1, 4, 8) (by decide)
theorem lr_2_0 {σ : pw_Sto} (h : Lay σ) : σ.2.2 2 0 = some 3 := h.2 (2, 0, 3) (by decide)
theorem lr_2_1 {σ : pw_Sto} (h : Lay σ) : σ.2.2 2 1 = some 4 := h.2 (2, 1, 4) (by decide)
theorem lr_2_2 {σ : pw_Sto} (h : Lay σ) : σ.2.2 2 2 = some 5 := h.2 (2, 2, 5) (by decide)
theorem lr_2_3 {σ : pw_Sto} (h : Lay σ) : σ.2.2 2 3 = some 6 := h.2 (2, 3, 6) (by decide)
theorem lr_11_1 {σ : pw_Sto} (h : Lay σ) : σ.2.2 11 1 = some 12 := h.2 (11, 1, 12) (by decide)
theorem lr_11_3 {σ : pw_Sto} (h : Lay σ) : σ.2.2 11 3 = some 17 := h.2 (11, 3, 17) (by decide)
theorem lr_11_4 {σ : pw_Sto} (h : Lay σ) : σ.2.2 11 4 = some 18 := h.2 (11, 4, 18) (by decide)
theorem lr_12_0 {σ : pw_Sto} (h : Lay σ) : σ.2.2 12 0 = some 13 := h.2 (12, 0, 13) (by decide)
theorem lr_12_1 {σ : pw_Sto} (h : Lay σ) : σ.2.2 12 1 = some 14 := h.2 (12, 1, 14) (by decide)
theorem lr_12_2 {σ : pw_Sto} (h : Lay σ) : σ.2.2 12 2 = some 15 := h.2 (12, 2, 15) (by decide)
theorem lr_12_3 {σ : pw_Sto} (h : Lay σ) : σ.2.2 12 3 = some 16 := h.2 (12, 3, 16) (by decide)
theorem lr_19_1 {σ : pw_Sto} (h : Lay σ) : σ.2.2 19 1 = some 20 := h.2 (19, 1, 20) (by decide)
theorem lr_19_3 {σ : pw_Sto} (h : Lay σ) : σ.2.2 19 3 = some 25 := h.2 (19, 3, 25) (by decide)
theorem lr_19_4 {σ : pw_Sto} (h : Lay σ) : σ.2.2 19 4 = some 26 := h.2 (19, 4, 26) (by decide)
theorem lr_20_0 {σ : pw_Sto} (h : Lay σ) : σ.2.2 20 0 = some 21 := h.2 (20, 0, 21) (by decide)
theorem lr_20_1 {σ : pw_Sto} (h : Lay σ) : σ.2.2 20 1 = some 22 := h.2 (20, 1, 22) (by decide)
theorem lr_20_2 {σ : pw_Sto} (h : Lay σ) : σ.2.2 20 2 = some 23 := h.2 (20, 2, 23) (by decide)
theorem lr_20_3 {σ : pw_Sto} (h : Lay σ) : σ.2.2 20 3 = some 24 := h.2 (20, 3, 24) (by decide)
theorem lr_27_1 {σ : pw_Sto} (h : Lay σ) : σ.2.2 27 1 = some 28 := h.2 (27, 1, 28) (by decide)
theorem lr_27_3 {σ : pw_Sto} (h : Lay σ) : σ.2.2 27 3 = some 33 := h.2 (27, 3, 33) (by decide)
theorem lr_27_4 {σ : pw_Sto} (h : Lay σ) : σ.2.2 27 4 = some 34 := h.2 (27, 4, 34) (by decide)
theorem lr_28_0 {σ : pw_Sto} (h : Lay σ) : σ.2.2 28 0 = some 29 := h.2 (28, 0, 29) (by decide)
theorem lr_28_1 {σ : pw_Sto} (h : Lay σ) : σ.2.2 28 1 = some 30 := h.2 (28, 1, 30) (by decide)
theorem lr_28_2 {σ : pw_Sto} (h : Lay σ) : σ.2.2 28 2 = some 31 := h.2 (28, 2, 31) (by decide)
theorem lr_28_3 {σ : pw_Sto} (h : Lay σ) : σ.2.2 28 3 = some 32 := h.2 (28, 3, 32) (by decide)
theorem lr_35_1 {σ : pw_Sto} (h : Lay σ) : σ.2.2 35 1 = some 36 := h.2 (35, 1, 36) (by decide)
theorem lr_35_3 {σ : pw_Sto} (h : Lay σ) : σ.2.2 35 3 = some 41 := h.2 (35, 3, 41) (by decide)
theorem lr_35_4 {σ : pw_Sto} (h : Lay σ) : σ.2.2 35 4 = some 42 := h.2 (35, 4, 42) (by decide)
theorem lr_36_0 {σ : pw_Sto} (h : Lay σ) : σ.2.2 36 0 = some 37 := h.2 (36, 0, 37) (by decide)
theorem lr_36_1 {σ : pw_Sto} (h : Lay σ) : σ.2.2 36 1 = some 38 := h.2 (36, 1, 38) (by decide)
theorem lr_36_2 {σ : pw_Sto} (h : Lay σ) : σ.2.2 36 2 = some 39 := h.2 (36, 2, 39) (by decide)
theorem lr_36_3 {σ : pw_Sto} (h : Lay σ) : σ.2.2 36 3 = some 40 := h.2 (36, 3, 40) (by decide)
theorem lr_9_0 {σ : pw_Sto} (h : Lay σ) : σ.2.2 9 0 = some 10 := h.2 (9, 0, 10) (by decide)
theorem lr_10_0 {σ : pw_Sto} (h : Lay σ) : σ.2.2 10 0 = some 11 := h.2 (10, 0, 11) (by decide)
theorem lr_10_1 {σ : pw_Sto} (h : Lay σ) : σ.2.2 10 1 = some 19 := h.2 (10, 1, 19) (by decide)
theorem lr_10_2 {σ : pw_Sto} (h : Lay σ) : σ.2.2 10 2 = some 27 := h.2 (10, 2, 27) (by decide)
theorem lr_10_3 {σ : pw_Sto} (h : Lay σ) : σ.2.2 10 3 = some 35 := h.2 (10, 3, 35) (by decide)
theorem lr_43_0 {σ : pw_Sto} (h : Lay σ) : σ.2.2 43 0 = some 44 := h.2 (43, 0, 44) (by decide)
theorem lr_43_4 {σ : pw_Sto} (h : Lay σ) : σ.2.2 43 4 = some 45 := h.2 (43, 4, 45) (by decide)
theorem lr_43_5 {σ : pw_Sto} (h : Lay σ) : σ.2.2 43 5 = some 46 := h.2 (43, 5, 46) (by decide)
theorem lr_47_4 {σ : pw_Sto} (h : Lay σ) : σ.2.2 47 4 = some 56 := h.2 (47, 4, 56) (by decide)
theorem lr_48_0 {σ : pw_Sto} (h : Lay σ) : σ.2.2 48 0 = some 49 := h.2 (48, 0, 49) (by decide)
theorem lr_50_0 {σ : pw_Sto} (h : Lay σ) : σ.2.2 50 0 = some 51 := h.2 (50, 0, 51) (by decide)
theorem lr_52_0 {σ : pw_Sto} (h : Lay σ) : σ.2.2 52 0 = some 53 := h.2 (52, 0, 53) (by decide)
theorem lr_54_0 {σ : pw_Sto} (h : Lay σ) : σ.2.2 54 0 = some 55 := h.2 (54, 0, 55) (by decide)
theorem lr_56_0 {σ : pw_Sto} (h : Lay σ) : σ.2.2 56 0 = some 57 := h.2 (56, 0, 57) (by decide)
theorem lr_59_0 {σ : pw_Sto} (h : Lay σ) : σ.2.2 59 0 = some 60 := h.2 (59, 0, 60) (by decide)
theorem lr_61_0 {σ : pw_Sto} (h : Lay σ) : σ.2.2 61 0 = some 62 := h.2 (61, 0, 62) (by decide)
theorem lr_58_0 {σ : pw_Sto} (h : Lay σ) : σ.2.2 58 0 = some 59 := h.2 (58, 0, 59) (by decide)
theorem lr_58_1 {σ : pw_Sto} (h : Lay σ) : σ.2.2 58 1 = some 61 := h.2 (58, 1, 61) (by decide)
theorem lr_63_0 {σ : pw_Sto} (h : Lay σ) : σ.2.2 63 0 = some 64 := h.2 (63, 0, 64) (by decide)
theorem lr_64_0 {σ : pw_Sto} (h : Lay σ) : σ.2.2 64 0 = some 65 := h.2 (64, 0, 65) (by decide)
theorem lr_64_1 {σ : pw_Sto} (h : Lay σ) : σ.2.2 64 1 = some 66 := h.2 (64, 1, 66) (by decide)
theorem lr_64_2 {σ : pw_Sto} (h : Lay σ) : σ.2.2 64 2 = some 67 := h.2 (64, 2, 67) (by decide)
theorem lr_64_3 {σ : pw_Sto} (h : Lay σ) : σ.2.2 64 3 = some 68 := h.2 (64, 3, 68) (by decide)
theorem lr_64_4 {σ : pw_Sto} (h : Lay σ) : σ.2.2 64 4 = some 69 := h.2 (64, 4, 69) (by decide)
theorem lr_64_5 {σ : pw_Sto} (h : Lay σ) : σ.2.2 64 5 = some 70 := h.2 (64, 5, 70) (by decide)
theorem lr_64_6 {σ : pw_Sto} (h : Lay σ) : σ.2.2 64 6 = some 71 := h.2 (64, 6, 71) (by decide)
theorem lr_64_7 {σ : pw_Sto} (h : Lay σ) : σ.2.2 64 7 = some 72 := h.2 (64, 7, 72) (by decide)
theorem lr_64_8 {σ : pw_Sto} (h : Lay σ) : σ.2.2 64 8 = some 73 := h.2 (64, 8, 73) (by decide)
theorem lr_64_9 {σ : pw_Sto} (h : Lay σ) : σ.2.2 64 9 = some 74 := h.2 (64, 9, 74) (by decide)
theorem lr_64_10 {σ : pw_Sto} (h : Lay σ) : σ.2.2 64 10 = some 75 := h.2 (64, 10, 75) (by decide)
theorem lr_64_11 {σ : pw_Sto} (h : Lay σ) : σ.2.2 64 11 = some 76 := h.2 (64, 11, 76) (by decide)
theorem lr_64_12 {σ : pw_Sto} (h : Lay σ) : σ.2.2 64 12 = some 77 := h.2 (64, 12, 77) (by decide)
theorem lr_64_13 {σ : pw_Sto} (h : Lay σ) : σ.2.2 64 13 = some 78 := h.2 (64, 13, 78) (by decide)
theorem lr_64_14 {σ : pw_Sto} (h : Lay σ) : σ.2.2 64 14 = some 79 := h.2 (64, 14, 79) (by decide)
theorem lr_64_15 {σ : pw_Sto} (h : Lay σ) : σ.2.2 64 15 = some 80 := h.2 (64, 15, 80) (by decide)
theorem lr_81_0 {σ : pw_Sto} (h : Lay σ) : σ.2.2 81 0 = some 82 := h.2 (81, 0, 82) (by decide)
theorem lr_81_1 {σ : pw_Sto} (h : Lay σ) : σ.2.2 81 1 = some 83 := h.2 (81, 1, 83) (by decide)
theorem lr_84_0 {σ : pw_Sto} (h : Lay σ) : σ.2.2 84 0 = some 85 := h.2 (84, 0, 85) (by decide)
theorem lr_91_0 {σ : pw_Sto} (h : Lay σ) : σ.2.2 91 0 = some 92 := h.2 (91, 0, 92) (by decide)
theorem lr_91_1 {σ : pw_Sto} (h : Lay σ) : σ.2.2 91 1 = some 93 := h.2 (91, 1, 93) (by decide)
theorem lr_91_3 {σ : pw_Sto} (h : Lay σ) : σ.2.2 91 3 = some 94 := h.2 (91, 3, 94) (by decide)
theorem lr_91_4 {σ : pw_Sto} (h : Lay σ) : σ.2.2 91 4 = some 95 := h.2 (91, 4, 95) (by decide)
theorem lr_91_6 {σ : pw_Sto} (h : Lay σ) : σ.2.2 91 6 = some 96 := h.2 (91, 6, 96) (by decide)
theorem lr_91_7 {σ : pw_Sto} (h : Lay σ) : σ.2.2 91 7 = some 97 := h.2 (91, 7, 97) (by decide)
theorem lr_91_8 {σ : pw_Sto} (h : Lay σ) : σ.2.2 91 8 = some 98 := h.2 (91, 8, 98) (by decide)
theorem lr_91_10 {σ : pw_Sto} (h : Lay σ) : σ.2.2 91 10 = some 99 := h.2 (91, 10, 99) (by decide)
theorem lr_91_11 {σ : pw_Sto} (h : Lay σ) : σ.2.2 91 11 = some 100 := h.2 (91, 11, 100) (by decide)
theorem lr_91_12 {σ : pw_Sto} (h : Lay σ) : σ.2.2 91 12 = some 101 := h.2 (91, 12, 101) (by decide)
theorem lr_91_13 {σ : pw_Sto} (h : Lay σ) : σ.2.2 91 13 = some 102 := h.2 (91, 13, 102) (by decide)
theorem lr_91_14 {σ : pw_Sto} (h : Lay σ) : σ.2.2 91 14 = some 103 := h.2 (91, 14, 103) (by decide)
theorem lr_91_15 {σ : pw_Sto} (h : Lay σ) : σ.2.2 91 15 = some 104 := h.2 (91, 15, 104) (by decide)
theorem lr_91_16 {σ : pw_Sto} (h : Lay σ) : σ.2.2 91 16 = some 105 := h.2 (91, 16, 105) (by decide)
theorem lr_91_17 {σ : pw_Sto} (h : Lay σ) : σ.2.2 91 17 = some 106 := h.2 (91, 17, 106) (by decide)
theorem lr_91_18 {σ : pw_Sto} (h : Lay σ) : σ.2.2 91 18 = some 107 := h.2 (91, 18, 107) (by decide)
theorem lr_91_19 {σ : pw_Sto} (h : Lay σ) : σ.2.2 91 19 = some 108 := h.2 (91, 19, 108) (by decide)
theorem sh_0 : (pw_sh 0).1 = 9 ∧ (pw_sh 0).2 = 0 := ⟨rfl, rfl⟩
theorem sh_1 : (pw_sh 1).1 = 7 ∧ (pw_sh 1).2 = 0 := ⟨rfl, rfl⟩
theorem sh_2 : (pw_sh 2).1 = 13 ∧ (pw_sh 2).2 = 4 := ⟨rfl, rfl⟩
theorem sh_3 : (pw_sh 3).1 = 11 ∧ (pw_sh 3).2 = 16 := ⟨rfl, rfl⟩
theorem sh_4 : (pw_sh 4).1 = 11 ∧ (pw_sh 4).2 = 16 := ⟨rfl, rfl⟩
theorem sh_5 : (pw_sh 5).1 = 11 ∧ (pw_sh 5).2 = 16 := ⟨rfl, rfl⟩
theorem sh_6 : (pw_sh 6).1 = 11 ∧ (pw_sh 6).2 = 16 := ⟨rfl, rfl⟩
theorem sh_7 : (pw_sh 7).1 = 11 ∧ (pw_sh 7).2 = 10 := ⟨rfl, rfl⟩
theorem sh_8 : (pw_sh 8).1 = 11 ∧ (pw_sh 8).2 = 10 := ⟨rfl, rfl⟩
theorem sh_9 : (pw_sh 9).1 = 3 ∧ (pw_sh 9).2 = 0 := ⟨rfl, rfl⟩
theorem sh_10 : (pw_sh 10).1 = 12 ∧ (pw_sh 10).2 = 4 := ⟨rfl, rfl⟩
theorem sh_11 : (pw_sh 11).1 = 7 ∧ (pw_sh 11).2 = 0 := ⟨rfl, rfl⟩
theorem sh_12 : (pw_sh 12).1 = 13 ∧ (pw_sh 12).2 = 4 := ⟨rfl, rfl⟩
theorem sh_13 : (pw_sh 13).1 = 11 ∧ (pw_sh 13).2 = 16 := ⟨rfl, rfl⟩
theorem sh_14 : (pw_sh 14).1 = 11 ∧ (pw_sh 14).2 = 16 := ⟨rfl, rfl⟩
theorem sh_15 : (pw_sh 15).1 = 11 ∧ (pw_sh 15).2 = 16 := ⟨rfl, rfl⟩
theorem sh_16 : (pw_sh 16).1 = 11 ∧ (pw_sh 16).2 = 16 := ⟨rfl, rfl⟩
theorem sh_17 : (pw_sh 17).1 = 11 ∧ (pw_sh 17).2 = 10 := ⟨rfl, rfl⟩
theorem sh_18 : (pw_sh 18).1 = 11 ∧ (pw_sh 18).2 = 10 := ⟨rfl, rfl⟩
theorem sh_19 : (pw_sh 19).1 = 7 ∧ (pw_sh 19).2 = 0 := ⟨rfl, rfl⟩
theorem sh_20 : (pw_sh 20).1 = 13 ∧ (pw_sh 20).2 = 4 := ⟨rfl, rfl⟩
theorem sh_21 : (pw_sh 21).1 = 11 ∧ (pw_sh 21).2 = 16 := ⟨rfl, rfl⟩
theorem sh_22 : (pw_sh 22).1 = 11 ∧ (pw_sh 22).2 = 16 := ⟨rfl, rfl⟩
theorem sh_23 : (pw_sh 23).1 = 11 ∧ (pw_sh 23).2 = 16 := ⟨rfl, rfl⟩
theorem sh_24 : (pw_sh 24).1 = 11 ∧ (pw_sh 24).2 = 16 := ⟨rfl, rfl⟩
theorem sh_25 : (pw_sh 25).1 = 11 ∧ (pw_sh 25).2 = 10 := ⟨rfl, rfl⟩
theorem sh_26 : (pw_sh 26).1 = 11 ∧ (pw_sh 26).2 = 10 := ⟨rfl, rfl⟩
theorem sh_27 : (pw_sh 27).1 = 7 ∧ (pw_sh 27).2 = 0 := ⟨rfl, rfl⟩
theorem sh_28 : (pw_sh 28).1 = 13 ∧ (pw_sh 28).2 = 4 := ⟨rfl, rfl⟩
theorem sh_29 : (pw_sh 29).1 = 11 ∧ (pw_sh 29).2 = 16 := ⟨rfl, rfl⟩
theorem sh_30 : (pw_sh 30).1 = 11 ∧ (pw_sh 30).2 = 16 := ⟨rfl, rfl⟩
theorem sh_31 : (pw_sh 31).1 = 11 ∧ (pw_sh 31).2 = 16 := ⟨rfl, rfl⟩
theorem sh_32 : (pw_sh 32).1 = 11 ∧ (pw_sh 32).2 = 16 := ⟨rfl, rfl⟩
theorem sh_33 : (pw_sh 33).1 = 11 ∧ (pw_sh 33).2 = 10 := ⟨rfl, rfl⟩
theorem sh_34 : (pw_sh 34).1 = 11 ∧ (pw_sh 34).2 = 10 := ⟨rfl, rfl⟩
theorem sh_35 : (pw_sh 35).1 = 7 ∧ (pw_sh 35).2 = 0 := ⟨rfl, rfl⟩
theorem sh_36 : (pw_sh 36).1 = 13 ∧ (pw_sh 36).2 = 4 := ⟨rfl, rfl⟩
theorem sh_37 : (pw_sh 37).1 = 11 ∧ (pw_sh 37).2 = 16 := ⟨rfl, rfl⟩
theorem sh_38 : (pw_sh 38).1 = 11 ∧ (pw_sh 38).2 = 16 := ⟨rfl, rfl⟩
theorem sh_39 : (pw_sh 39).1 = 11 ∧ (pw_sh 39).2 = 16 := ⟨rfl, rfl⟩
theorem sh_40 : (pw_sh 40).1 = 11 ∧ (pw_sh 40).2 = 16 := ⟨rfl, rfl⟩
theorem sh_41 : (pw_sh 41).1 = 11 ∧ (pw_sh 41).2 = 10 := ⟨rfl, rfl⟩
theorem sh_42 : (pw_sh 42).1 = 11 ∧ (pw_sh 42).2 = 10 := ⟨rfl, rfl⟩
theorem sh_43 : (pw_sh 43).1 = 2 ∧ (pw_sh 43).2 = 0 := ⟨rfl, rfl⟩
theorem sh_44 : (pw_sh 44).1 = 11 ∧ (pw_sh 44).2 = 80 := ⟨rfl, rfl⟩
theorem sh_45 : (pw_sh 45).1 = 11 ∧ (pw_sh 45).2 = 16 := ⟨rfl, rfl⟩
theorem sh_46 : (pw_sh 46).1 = 11 ∧ (pw_sh 46).2 = 16 := ⟨rfl, rfl⟩
theorem sh_47 : (pw_sh 47).1 = 0 ∧ (pw_sh 47).2 = 0 := ⟨rfl, rfl⟩
theorem sh_48 : (pw_sh 48).1 = 4 ∧ (pw_sh 48).2 = 0 := ⟨rfl, rfl⟩
theorem sh_49 : (pw_sh 49).1 = 11 ∧ (pw_sh 49).2 = 17 := ⟨rfl, rfl⟩
theorem sh_50 : (pw_sh 50).1 = 4 ∧ (pw_sh 50).2 = 0 := ⟨rfl, rfl⟩
theorem sh_51 : (pw_sh 51).1 = 11 ∧ (pw_sh 51).2 = 17 := ⟨rfl, rfl⟩
theorem sh_52 : (pw_sh 52).1 = 4 ∧ (pw_sh 52).2 = 0 := ⟨rfl, rfl⟩
theorem sh_53 : (pw_sh 53).1 = 11 ∧ (pw_sh 53).2 = 17 := ⟨rfl, rfl⟩
theorem sh_54 : (pw_sh 54).1 = 4 ∧ (pw_sh 54).2 = 0 := ⟨rfl, rfl⟩
theorem sh_55 : (pw_sh 55).1 = 11 ∧ (pw_sh 55).2 = 17 := ⟨rfl, rfl⟩
theorem sh_56 : (pw_sh 56).1 = 4 ∧ (pw_sh 56).2 = 0 := ⟨rfl, rfl⟩
theorem sh_57 : (pw_sh 57).1 = 11 ∧ (pw_sh 57).2 = 17 := ⟨rfl, rfl⟩
theorem sh_58 : (pw_sh 58).1 = 1 ∧ (pw_sh 58).2 = 0 := ⟨rfl, rfl⟩
theorem sh_59 : (pw_sh 59).1 = 4 ∧ (pw_sh 59).2 = 0 := ⟨rfl, rfl⟩
theorem sh_60 : (pw_sh 60).1 = 11 ∧ (pw_sh 60).2 = 17 := ⟨rfl, rfl⟩
theorem sh_61 : (pw_sh 61).1 = 4 ∧ (pw_sh 61).2 = 0 := ⟨rfl, rfl⟩
theorem sh_62 : (pw_sh 62).1 = 11 ∧ (pw_sh 62).2 = 17 := ⟨rfl, rfl⟩
theorem sh_63 : (pw_sh 63).1 = 8 ∧ (pw_sh 63).2 = 0 := ⟨rfl, rfl⟩
theorem sh_64 : (pw_sh 64).1 = 13 ∧ (pw_sh 64).2 = 16 := ⟨rfl, rfl⟩
theorem sh_65 : (pw_sh 65).1 = 11 ∧ (pw_sh 65).2 = 16 := ⟨rfl, rfl⟩
theorem sh_66 : (pw_sh 66).1 = 11 ∧ (pw_sh 66).2 = 16 := ⟨rfl, rfl⟩
theorem sh_67 : (pw_sh 67).1 = 11 ∧ (pw_sh 67).2 = 16 := ⟨rfl, rfl⟩
theorem sh_68 : (pw_sh 68).1 = 11 ∧ (pw_sh 68).2 = 16 := ⟨rfl, rfl⟩
theorem sh_69 : (pw_sh 69).1 = 11 ∧ (pw_sh 69).2 = 16 := ⟨rfl, rfl⟩
theorem sh_70 : (pw_sh 70).1 = 11 ∧ (pw_sh 70).2 = 16 := ⟨rfl, rfl⟩
theorem sh_71 : (pw_sh 71).1 = 11 ∧ (pw_sh 71).2 = 16 := ⟨rfl, rfl⟩
theorem sh_72 : (pw_sh 72).1 = 11 ∧ (pw_sh 72).2 = 16 := ⟨rfl, rfl⟩
theorem sh_73 : (pw_sh 73).1 = 11 ∧ (pw_sh 73).2 = 16 := ⟨rfl, rfl⟩
theorem sh_74 : (pw_sh 74).1 = 11 ∧ (pw_sh 74).2 = 16 := ⟨rfl, rfl⟩
theorem sh_75 : (pw_sh 75).1 = 11 ∧ (pw_sh 75).2 = 16 := ⟨rfl, rfl⟩
theorem sh_76 : (pw_sh 76).1 = 11 ∧ (pw_sh 76).2 = 16 := ⟨rfl, rfl⟩
theorem sh_77 : (pw_sh 77).1 = 11 ∧ (pw_sh 77).2 = 16 := ⟨rfl, rfl⟩
theorem sh_78 : (pw_sh 78).1 = 11 ∧ (pw_sh 78).2 = 16 := ⟨rfl, rfl⟩
theorem sh_79 : (pw_sh 79).1 = 11 ∧ (pw_sh 79).2 = 16 := ⟨rfl, rfl⟩
theorem sh_80 : (pw_sh 80).1 = 11 ∧ (pw_sh 80).2 = 16 := ⟨rfl, rfl⟩
theorem sh_81 : (pw_sh 81).1 = 6 ∧ (pw_sh 81).2 = 0 := ⟨rfl, rfl⟩
theorem sh_82 : (pw_sh 82).1 = 11 ∧ (pw_sh 82).2 = 16 := ⟨rfl, rfl⟩
theorem sh_83 : (pw_sh 83).1 = 11 ∧ (pw_sh 83).2 = 16 := ⟨rfl, rfl⟩
theorem sh_84 : (pw_sh 84).1 = 5 ∧ (pw_sh 84).2 = 0 := ⟨rfl, rfl⟩
theorem sh_85 : (pw_sh 85).1 = 11 ∧ (pw_sh 85).2 = 17 := ⟨rfl, rfl⟩
theorem sh_86 : (pw_sh 86).1 = 11 ∧ (pw_sh 86).2 = 17 := ⟨rfl, rfl⟩
theorem sh_87 : (pw_sh 87).1 = 11 ∧ (pw_sh 87).2 = 17 := ⟨rfl, rfl⟩
theorem sh_88 : (pw_sh 88).1 = 11 ∧ (pw_sh 88).2 = 16 := ⟨rfl, rfl⟩
theorem sh_89 : (pw_sh 89).1 = 11 ∧ (pw_sh 89).2 = 16 := ⟨rfl, rfl⟩
theorem sh_90 : (pw_sh 90).1 = 11 ∧ (pw_sh 90).2 = 3 := ⟨rfl, rfl⟩
theorem sh_91 : (pw_sh 91).1 = 10 ∧ (pw_sh 91).2 = 0 := ⟨rfl, rfl⟩
theorem sh_92 : (pw_sh 92).1 = 11 ∧ (pw_sh 92).2 = 86 := ⟨rfl, rfl⟩
theorem sh_93 : (pw_sh 93).1 = 11 ∧ (pw_sh 93).2 = 344 := ⟨rfl, rfl⟩
theorem sh_94 : (pw_sh 94).1 = 11 ∧ (pw_sh 94).2 = 3 := ⟨rfl, rfl⟩
theorem sh_95 : (pw_sh 95).1 = 11 ∧ (pw_sh 95).2 = 80 := ⟨rfl, rfl⟩
theorem sh_96 : (pw_sh 96).1 = 11 ∧ (pw_sh 96).2 = 16 := ⟨rfl, rfl⟩
theorem sh_97 : (pw_sh 97).1 = 11 ∧ (pw_sh 97).2 = 16 := ⟨rfl, rfl⟩
theorem sh_98 : (pw_sh 98).1 = 11 ∧ (pw_sh 98).2 = 16 := ⟨rfl, rfl⟩
theorem sh_99 : (pw_sh 99).1 = 11 ∧ (pw_sh 99).2 = 324 := ⟨rfl, rfl⟩
theorem sh_100 : (pw_sh 100).1 = 11 ∧ (pw_sh 100).2 = 18 := ⟨rfl, rfl⟩
theorem sh_101 : (pw_sh 101).1 = 11 ∧ (pw_sh 101).2 = 18 := ⟨rfl, rfl⟩
theorem sh_102 : (pw_sh 102).1 = 11 ∧ (pw_sh 102).2 = 18 := ⟨rfl, rfl⟩
theorem sh_103 : (pw_sh 103).1 = 11 ∧ (pw_sh 103).2 = 18 := ⟨rfl, rfl⟩
theorem sh_104 : (pw_sh 104).1 = 11 ∧ (pw_sh 104).2 = 18 := ⟨rfl, rfl⟩
theorem sh_105 : (pw_sh 105).1 = 11 ∧ (pw_sh 105).2 = 18 := ⟨rfl, rfl⟩
theorem sh_106 : (pw_sh 106).1 = 11 ∧ (pw_sh 106).2 = 18 := ⟨rfl, rfl⟩
theorem sh_107 : (pw_sh 107).1 = 11 ∧ (pw_sh 107).2 = 170 := ⟨rfl, rfl⟩
theorem sh_108 : (pw_sh 108).1 = 11 ∧ (pw_sh 108).2 = 170 := ⟨rfl, rfl⟩
