/-! the two worlds: the regions of the class, of the reference -/
def kdCL : List (Nat × Nat) := [(0, 10), (0, 9), (1, 400), (4, 401), (1, 401), (1, 401), (0, 5), (1, 10), (1, 10), (1, 10), (1, 24), (1, 12), (1, 12), (1, 10), (0, 5), (1, 10), (1, 10), (1, 10), (1, 24), (1, 12), (1, 12), (1, 10), (0, 5), (1, 10), (1, 10), (1, 10), (1, 24), (1, 12), (1, 12), (1, 10), (0, 0), (1, 10), (5, 10), (1, 10), (1, 10), (1, 10), (1, 10), (1, 10), (1, 10), (1, 10), (1, 10), (1, 10), (1, 10), (1, 10), (0, 0), (1, 10), (5, 10), (1, 10), (1, 10), (1, 10), (1, 10), (1, 10), (1, 10), (1, 10), (1, 10), (1, 10), (1, 10), (1, 10), (0, 7), (1, 12), (1, 12), (1, 400), (1, 40), (0, 7), (1, 12), (1, 12), (1, 400), (1, 40), (0, 7), (1, 12), (1, 12), (1, 400), (1, 40), (0, 6), (0, 8), (0, 2), (1, 1024), (1, 1024), (1, 1024), (2, 1024), (1, 1034), (1, 1034), (0, 4), (1, 2048), (1, 2048), (1, 2048), (2, 2048), (0, 3), (1, 6), (0, 1), (1, 40), (1, 40), (1, 40), (2, 40), (2, 40)]
def kdC (r : Nat) : Nat × Nat := kdCL.getD r (9, 0)
def fcCL : List (List Nat) := [[3, 8, 16, 24, 32, 46, 60, 65, 70, 75, 76, 77, 84, 89, 91, 0, 0], [4, 0, 5, 6, 7, 0, 0], [], [], [], [], [0, 0, 9, 10, 11, 0, 0, 0, 0, 12, 0, 13, 14, 0, 15], [], [], [], [], [], [], [], [0, 0, 17, 18, 19, 0, 0, 0, 0, 20, 0, 21, 22, 0, 23], [], [], [], [], [], [], [], [0, 0, 25, 26, 27, 0, 0, 0, 0, 28, 0, 29, 30, 0, 31], [], [], [], [], [], [], [], [0, 0, 0, 0, 0, 33, 34, 45], [], [], [], [], [], [], [], [], [], [], [], [], [], [0, 0, 0, 0, 0, 47, 48, 59], [], [], [], [], [], [], [], [], [], [], [], [], [], [0, 61, 62, 63, 0, 64, 0, 0, 0, 0], [], [], [], [], [0, 66, 67, 68, 0, 69, 0, 0, 0, 0], [], [], [], [], [0, 71, 72, 73, 0, 74, 0, 0, 0, 0], [], [], [], [], [3, 16], [3, 65], [8, 32, 0, 0, 78, 79, 80, 81, 82, 83, 0], [], [], [], [], [], [], [77, 85, 86, 87, 88, 0, 0, 0, 0, 0, 0], [], [], [], [], [77, 90, 0], [], [77, 60, 92, 93, 94, 95, 96, 0, 0, 0, 0, 0, 0, 0], [], [], [], [], []]
def fcC (r f : Nat) : Nat := (fcCL.getD r []).getD f 0
abbrev wC (b : Nat) : WD := (kdC, fcC, 95, b)
theorem kC0 : kdC 0 = (0, 10) := rfl
theorem nC0 : 0 < 95 := by decide
theorem kC1 : kdC 1 = (0, 9) := rfl
theorem nC1 : 1 < 95 := by decide
theorem kC2 : kdC 2 = (1, 400) := rfl
theorem nC2 : 2 < 95 := by decide
theorem kC3 : kdC 3 = (4, 401) := rfl
theorem nC3 : 3 < 95 := by decide
theorem kC4 : kdC 4 = (1, 401) := rfl
theorem nC4 : 4 < 95 := by decide
theorem kC5 : kdC 5 = (1, 401) := rfl
theorem nC5 : 5 < 95 := by decide
theorem kC6 : kdC 6 = (0, 5) := rfl
theorem nC6 : 6 < 95 := by decide
theorem kC7 : kdC 7 = (1, 10) := rfl
theorem nC7 : 7 < 95 := by decide
theorem kC8 : kdC 8 = (1, 10) := rfl
theorem nC8 : 8 < 95 := by decide
theorem kC9 : kdC 9 = (1, 10) := rfl
theorem nC9 : 9 < 95 := by decide
theorem kC10 : kdC 10 = (1, 24) := rfl
theorem nC10 : 10 < 95 := by decide
theorem kC11 : kdC 11 = (1, 12) := rfl
theorem nC11 : 11 < 95 := by decide
theorem kC12 : kdC 12 = (1, 12) := rfl
theorem nC12 : 12 < 95 := by decide
theorem kC13 : kdC 13 = (1, 10) := rfl
theorem nC13 : 13 < 95 := by decide
theorem kC14 : kdC 14 = (0, 5) := rfl
theorem nC14 : 14 < 95 := by decide
theorem kC15 : kdC 15 = (1, 10) := rfl
theorem nC15 : 15 < 95 := by decide
theorem kC16 : kdC 16 = (1, 10) := rfl
theorem nC16 : 16 < 95 := by decide
theorem kC17 : kdC 17 = (1, 10) := rfl
theorem nC17 : 17 < 95 := by decide
theorem kC18 : kdC 18 = (1, 24) := rfl
theorem nC18 : 18 < 95 := by decide
theorem kC19 : kdC 19 = (1, 12) := rfl
theorem nC19 : 19 < 95 := by decide
theorem kC20 : kdC 20 = (1, 12) := rfl
theorem nC20 : 20 < 95 := by decide
theorem kC21 : kdC 21 = (1, 10) := rfl
theorem nC21 : 21 < 95 := by decide
theorem kC22 : kdC 22 = (0, 5) := rfl
theorem nC22 : 22 < 95 := by decide
theorem kC23 : kdC 23 = (1, 10) := rfl
theorem nC23 : 23 < 95 := by decide
theorem kC24 : kdC 24 = (1, 10) := rfl
theorem nC24 : 24 < 95 := by decide
theorem kC25 : kdC 25 = (1, 10) := rfl
theorem nC25 : 25 < 95 := by decide
theorem kC26 : kdC 26 = (1, 24) := rfl
theorem nC26 : 26 < 95 := by decide
theorem kC27 : kdC 27 = (1, 12) := rfl
theorem nC27 : 27 < 95 := by decide
theorem kC28 : kdC 28 = (1, 12) := rfl
theorem nC28 : 28 < 95 := by decide
theorem kC29 : kdC 29 = (1, 10) := rfl
theorem nC29 : 29 < 95 := by decide
theorem kC30 : kdC 30 = (0, 0) := rfl
theorem nC30 : 30 < 95 := by decide
theorem kC31 : kdC 31 = (1, 10) := rfl
theorem nC31 : 31 < 95 := by decide
theorem kC32 : kdC 32 = (5, 10) := rfl
theorem nC32 : 32 < 95 := by decide
theorem kC33 : kdC 33 = (1, 10) := rfl
theorem nC33 : 33 < 95 := by decide
theorem kC34 : kdC 34 = (1, 10) := rfl
theorem nC34 : 34 < 95 := by decide
theorem kC35 : kdC 35 = (1, 10) := rfl
theorem nC35 : 35 < 95 := by decide
theorem kC36 : kdC 36 = (1, 10) := rfl
theorem nC36 : 36 < 95 := by decide
theorem kC37 : kdC 37 = (1, 10) := rfl
theorem nC37 : 37 < 95 := by decide
theorem kC38 : kdC 38 = (1, 10) := rfl
theorem nC38 : 38 < 95 := by decide
theorem kC39 : kdC 39 = (1, 10) := rfl
theorem nC39 : 39 < 95 := by decide
theorem kC40 : kdC 40 = (1, 10) := rfl
theorem nC40 : 40 < 95 := by decide
theorem kC41 : kdC 41 = (1, 10) := rfl
theorem nC41 : 41 < 95 := by decide
theorem kC42 : kdC 42 = (1, 10) := rfl
theorem nC42 : 42 < 95 := by decide
theorem kC43 : kdC 43 = (1, 10) := rfl
theorem nC43 : 43 < 95 := by decide
theorem kC44 : kdC 44 = (0, 0) := rfl
theorem nC44 : 44 < 95 := by decide
theorem kC45 : kdC 45 = (1, 10) := rfl
theorem nC45 : 45 < 95 := by decide
theorem kC46 : kdC 46 = (5, 10) := rfl
theorem nC46 : 46 < 95 := by decide
theorem kC47 : kdC 47 = (1, 10) := rfl
theorem nC47 : 47 < 95 := by decide
theorem kC48 : kdC 48 = (1, 10) := rfl
theorem nC48 : 48 < 95 := by decide
theorem kC49 : kdC 49 = (1, 10) := rfl
theorem nC49 : 49 < 95 := by decide
theorem kC50 : kdC 50 = (1, 10) := rfl
theorem nC50 : 50 < 95 := by decide
theorem kC51 : kdC 51 = (1, 10) := rfl
theorem nC51 : 51 < 95 := by decide
theorem kC52 : kdC 52 = (1, 10) := rfl
theorem nC52 : 52 < 95 := by decide
theorem kC53 : kdC 53 = (1, 10) := rfl
theorem nC53 : 53 < 95 := by decide
theorem kC54 : kdC 54 = (1, 10) := rfl
theorem nC54 : 54 < 95 := by decide
theorem kC55 : kdC 55 = (1, 10) := rfl
theorem nC55 : 55 < 95 := by decide
theorem kC56 : kdC 56 = (1, 10) := rfl
theorem nC56 : 56 < 95 := by decide
theorem kC57 : kdC 57 = (1, 10) := rfl
theorem nC57 : 57 < 95 := by decide
theorem kC58 : kdC 58 = (0, 7) := rfl
theorem nC58 : 58 < 95 := by decide
theorem kC59 : kdC 59 = (1, 12) := rfl
theorem nC59 : 59 < 95 := by decide
theorem kC60 : kdC 60 = (1, 12) := rfl
theorem nC60 : 60 < 95 := by decide
theorem kC61 : kdC 61 = (1, 400) := rfl
theorem nC61 : 61 < 95 := by decide
theorem kC62 : kdC 62 = (1, 40) := rfl
theorem nC62 : 62 < 95 := by decide
theorem kC63 : kdC 63 = (0, 7) := rfl
theorem nC63 : 63 < 95 := by decide
theorem kC64 : kdC 64 = (1, 12) := rfl
theorem nC64 : 64 < 95 := by decide
theorem kC65 : kdC 65 = (1, 12) := rfl
theorem nC65 : 65 < 95 := by decide
theorem kC66 : kdC 66 = (1, 400) := rfl
theorem nC66 : 66 < 95 := by decide
theorem kC67 : kdC 67 = (1, 40) := rfl
theorem nC67 : 67 < 95 := by decide
theorem kC68 : kdC 68 = (0, 7) := rfl
theorem nC68 : 68 < 95 := by decide
theorem kC69 : kdC 69 = (1, 12) := rfl
theorem nC69 : 69 < 95 := by decide
theorem kC70 : kdC 70 = (1, 12) := rfl
theorem nC70 : 70 < 95 := by decide
theorem kC71 : kdC 71 = (1, 400) := rfl
theorem nC71 : 71 < 95 := by decide
theorem kC72 : kdC 72 = (1, 40) := rfl
theorem nC72 : 72 < 95 := by decide
theorem kC73 : kdC 73 = (0, 6) := rfl
theorem nC73 : 73 < 95 := by decide
theorem kC74 : kdC 74 = (0, 8) := rfl
theorem nC74 : 74 < 95 := by decide
theorem kC75 : kdC 75 = (0, 2) := rfl
theorem nC75 : 75 < 95 := by decide
theorem kC76 : kdC 76 = (1, 1024) := rfl
theorem nC76 : 76 < 95 := by decide
theorem kC77 : kdC 77 = (1, 1024) := rfl
theorem nC77 : 77 < 95 := by decide
theorem kC78 : kdC 78 = (1, 1024) := rfl
theorem nC78 : 78 < 95 := by decide
theorem kC79 : kdC 79 = (2, 1024) := rfl
theorem nC79 : 79 < 95 := by decide
theorem kC80 : kdC 80 = (1, 1034) := rfl
theorem nC80 : 80 < 95 := by decide
theorem kC81 : kdC 81 = (1, 1034) := rfl
theorem nC81 : 81 < 95 := by decide
theorem kC82 : kdC 82 = (0, 4) := rfl
theorem nC82 : 82 < 95 := by decide
theorem kC83 : kdC 83 = (1, 2048) := rfl
theorem nC83 : 83 < 95 := by decide
theorem kC84 : kdC 84 = (1, 2048) := rfl
theorem nC84 : 84 < 95 := by decide
theorem kC85 : kdC 85 = (1, 2048) := rfl
theorem nC85 : 85 < 95 := by decide
theorem kC86 : kdC 86 = (2, 2048) := rfl
theorem nC86 : 86 < 95 := by decide
theorem kC87 : kdC 87 = (0, 3) := rfl
theorem nC87 : 87 < 95 := by decide
theorem kC88 : kdC 88 = (1, 6) := rfl
theorem nC88 : 88 < 95 := by decide
theorem kC89 : kdC 89 = (0, 1) := rfl
theorem nC89 : 89 < 95 := by decide
theorem kC90 : kdC 90 = (1, 40) := rfl
theorem nC90 : 90 < 95 := by decide
theorem kC91 : kdC 91 = (1, 40) := rfl
theorem nC91 : 91 < 95 := by decide
theorem kC92 : kdC 92 = (1, 40) := rfl
theorem nC92 : 92 < 95 := by decide
theorem kC93 : kdC 93 = (2, 40) := rfl
theorem nC93 : 93 < 95 := by decide
theorem kC94 : kdC 94 = (2, 40) := rfl
theorem nC94 : 94 < 95 := by decide
theorem fC0_0 : fcC 0 0 = 1 + 2 := rfl
theorem fC0_1 : fcC 0 1 = 6 + 2 := rfl
theorem fC0_2 : fcC 0 2 = 14 + 2 := rfl
theorem fC0_3 : fcC 0 3 = 22 + 2 := rfl
theorem fC0_4 : fcC 0 4 = 30 + 2 := rfl
theorem fC0_5 : fcC 0 5 = 44 + 2 := rfl
theorem fC0_6 : fcC 0 6 = 58 + 2 := rfl
theorem fC0_7 : fcC 0 7 = 63 + 2 := rfl
theorem fC0_8 : fcC 0 8 = 68 + 2 := rfl
theorem fC0_9 : fcC 0 9 = 73 + 2 := rfl
theorem fC0_10 : fcC 0 10 = 74 + 2 := rfl
theorem fC0_11 : fcC 0 11 = 75 + 2 := rfl
theorem fC0_12 : fcC 0 12 = 82 + 2 := rfl
theorem fC0_13 : fcC 0 13 = 87 + 2 := rfl
theorem fC0_14 : fcC 0 14 = 89 + 2 := rfl
theorem fC0_15 : fcC 0 15 = 0 := rfl
theorem fC0_16 : fcC 0 16 = 0 := rfl
theorem fC1_0 : fcC 1 0 = 2 + 2 := rfl
theorem fC1_1 : fcC 1 1 = 0 := rfl
theorem fC1_2 : fcC 1 2 = 3 + 2 := rfl
theorem fC1_3 : fcC 1 3 = 4 + 2 := rfl
theorem fC1_4 : fcC 1 4 = 5 + 2 := rfl
theorem fC1_5 : fcC 1 5 = 0 := rfl
theorem fC1_6 : fcC 1 6 = 0 := rfl
theorem fC6_0 : fcC 6 0 = 0 := rfl
theorem fC6_1 : fcC 6 1 = 0 := rfl
theorem fC6_2 : fcC 6 2 = 7 + 2 := rfl
theorem fC6_3 : fcC 6 3 = 8 + 2 := rfl
theorem fC6_4 : fcC 6 4 = 9 + 2 := rfl
theorem fC6_5 : fcC 6 5 = 0 := rfl
theorem fC6_6 : fcC 6 6 = 0 := rfl
theorem fC6_7 : fcC 6 7 = 0 := rfl
theorem fC6_8 : fcC 6 8 = 0 := rfl
theorem fC6_9 : fcC 6 9 = 10 + 2 := rfl
theorem fC6_10 : fcC 6 10 = 0 := rfl
theorem fC6_11 : fcC 6 11 = 11 + 2 := rfl
theorem fC6_12 : fcC 6 12 = 12 + 2 := rfl
theorem fC6_13 : fcC 6 13 = 0 := rfl
theorem fC6_14 : fcC 6 14 = 13 + 2 := rfl
theorem fC14_0 : fcC 14 0 = 0 := rfl
theorem fC14_1 : fcC 14 1 = 0 := rfl
theorem fC14_2 : fcC 14 2 = 15 + 2 := rfl
theorem fC14_3 : fcC 14 3 = 16 + 2 := rfl
theorem fC14_4 : fcC 14 4 = 17 + 2 := rfl
theorem fC14_5 : fcC 14 5 = 0 := rfl
theorem fC14_6 : fcC 14 6 = 0 := rfl
theorem fC14_7 : fcC 14 7 = 0 := rfl
theorem fC14_8 : fcC 14 8 = 0 := rfl
theorem fC14_9 : fcC 14 9 = 18 + 2 := rfl
theorem fC14_10 : fcC 14 10 = 0 := rfl
theorem fC14_11 : fcC 14 11 = 19 + 2 := rfl
theorem fC14_12 : fcC 14 12 = 20 + 2 := rfl
theorem fC14_13 : fcC 14 13 = 0 := rfl
theorem fC14_14 : fcC 14 14 = 21 + 2 := rfl
theorem fC22_0 : fcC 22 0 = 0 := rfl
theorem fC22_1 : fcC 22 1 = 0 := rfl
theorem fC22_2 : fcC 22 2 = 23 + 2 := rfl
theorem fC22_3 : fcC 22 3 = 24 + 2 := rfl
theorem fC22_4 : fcC 22 4 = 25 + 2 := rfl
theorem fC22_5 : fcC 22 5 = 0 := rfl
theorem fC22_6 : fcC 22 6 = 0 := rfl
theorem fC22_7 : fcC 22 7 = 0 := rfl
theorem fC22_8 : fcC 22 8 = 0 := rfl
theorem fC22_9 : fcC 22 9 = 26 + 2 := rfl
theorem fC22_10 : fcC 22 10 = 0 := rfl
theorem fC22_11 : fcC 22 11 = 27 + 2 := rfl
theorem fC22_12 : fcC 22 12 = 28 + 2 := rfl
theorem fC22_13 : fcC 22 13 = 0 := rfl
theorem fC22_14 : fcC 22 14 = 29 + 2 := rfl
theorem fC30_0 : fcC 30 0 = 0 := rfl
theorem fC30_1 : fcC 30 1 = 0 := rfl
theorem fC30_2 : fcC 30 2 = 0 := rfl
theorem fC30_3 : fcC 30 3 = 0 := rfl
theorem fC30_4 : fcC 30 4 = 0 := rfl
theorem fC30_5 : fcC 30 5 = 31 + 2 := rfl
theorem fC30_6 : fcC 30 6 = 32 + 2 := rfl
theorem fC30_7 : fcC 30 7 = 43 + 2 := rfl
theorem fC44_0 : fcC 44 0 = 0 := rfl
theorem fC44_1 : fcC 44 1 = 0 := rfl
theorem fC44_2 : fcC 44 2 = 0 := rfl
theorem fC44_3 : fcC 44 3 = 0 := rfl
theorem fC44_4 : fcC 44 4 = 0 := rfl
theorem fC44_5 : fcC 44 5 = 45 + 2 := rfl
theorem fC44_6 : fcC 44 6 = 46 + 2 := rfl
theorem fC44_7 : fcC 44 7 = 57 + 2 := rfl
theorem fC58_0 : fcC 58 0 = 0 := rfl
theorem fC58_1 : fcC 58 1 = 59 + 2 := rfl
theorem fC58_2 : fcC 58 2 = 60 + 2 := rfl
theorem fC58_3 : fcC 58 3 = 61 + 2 := rfl
theorem fC58_4 : fcC 58 4 = 0 := rfl
theorem fC58_5 : fcC 58 5 = 62 + 2 := rfl
theorem fC58_6 : fcC 58 6 = 0 := rfl
theorem fC58_7 : fcC 58 7 = 0 := rfl
theorem fC58_8 : fcC 58 8 = 0 := rfl
theorem fC58_9 : fcC 58 9 = 0 := rfl
theorem fC63_0 : fcC 63 0 = 0 := rfl
theorem fC63_1 : fcC 63 1 = 64 + 2 := rfl
theorem fC63_2 : fcC 63 2 = 65 + 2 := rfl
theorem fC63_3 : fcC 63 3 = 66 + 2 := rfl
theorem fC63_4 : fcC 63 4 = 0 := rfl
theorem fC63_5 : fcC 63 5 = 67 + 2 := rfl
theorem fC63_6 : fcC 63 6 = 0 := rfl
theorem fC63_7 : fcC 63 7 = 0 := rfl
theorem fC63_8 : fcC 63 8 = 0 := rfl
theorem fC63_9 : fcC 63 9 = 0 := rfl
theorem fC68_0 : fcC 68 0 = 0 := rfl
theorem fC68_1 : fcC 68 1 = 69 + 2 := rfl
theorem fC68_2 : fcC 68 2 = 70 + 2 := rfl
theorem fC68_3 : fcC 68 3 = 71 + 2 := rfl
theorem fC68_4 : fcC 68 4 = 0 := rfl
theorem fC68_5 : fcC 68 5 = 72 + 2 := rfl
theorem fC68_6 : fcC 68 6 = 0 := rfl
theorem fC68_7 : fcC 68 7 = 0 := rfl
theorem fC68_8 : fcC 68 8 = 0 := rfl
theorem fC68_9 : fcC 68 9 = 0 := rfl
theorem fC73_0 : fcC 73 0 = 1 + 2 := rfl
theorem fC73_1 : fcC 73 1 = 14 + 2 := rfl
theorem fC74_0 : fcC 74 0 = 1 + 2 := rfl
theorem fC74_1 : fcC 74 1 = 63 + 2 := rfl
theorem fC75_0 : fcC 75 0 = 6 + 2 := rfl
theorem fC75_1 : fcC 75 1 = 30 + 2 := rfl
theorem fC75_2 : fcC 75 2 = 0 := rfl
theorem fC75_3 : fcC 75 3 = 0 := rfl
theorem fC75_4 : fcC 75 4 = 76 + 2 := rfl
theorem fC75_5 : fcC 75 5 = 77 + 2 := rfl
theorem fC75_6 : fcC 75 6 = 78 + 2 := rfl
theorem fC75_7 : fcC 75 7 = 79 + 2 := rfl
theorem fC75_8 : fcC 75 8 = 80 + 2 := rfl
theorem fC75_9 : fcC 75 9 = 81 + 2 := rfl
theorem fC75_10 : fcC 75 10 = 0 := rfl
theorem fC82_0 : fcC 82 0 = 75 + 2 := rfl
theorem fC82_1 : fcC 82 1 = 83 + 2 := rfl
theorem fC82_2 : fcC 82 2 = 84 + 2 := rfl
theorem fC82_3 : fcC 82 3 = 85 + 2 := rfl
theorem fC82_4 : fcC 82 4 = 86 + 2 := rfl
theorem fC82_5 : fcC 82 5 = 0 := rfl
theorem fC82_6 : fcC 82 6 = 0 := rfl
theorem fC82_7 : fcC 82 7 = 0 := rfl
theorem fC82_8 : fcC 82 8 = 0 := rfl
theorem fC82_9 : fcC 82 9 = 0 := rfl
theorem fC82_10 : fcC 82 10 = 0 := rfl
theorem fC87_0 : fcC 87 0 = 75 + 2 := rfl
theorem fC87_1 : fcC 87 1 = 88 + 2 := rfl
theorem fC87_2 : fcC 87 2 = 0 := rfl
theorem fC89_0 : fcC 89 0 = 75 + 2 := rfl
theorem fC89_1 : fcC 89 1 = 58 + 2 := rfl
theorem fC89_2 : fcC 89 2 = 90 + 2 := rfl
theorem fC89_3 : fcC 89 3 = 91 + 2 := rfl
theorem fC89_4 : fcC 89 4 = 92 + 2 := rfl
theorem fC89_5 : fcC 89 5 = 93 + 2 := rfl
theorem fC89_6 : fcC 89 6 = 94 + 2 := rfl
theorem fC89_7 : fcC 89 7 = 0 := rfl
theorem fC89_8 : fcC 89 8 = 0 := rfl
theorem fC89_9 : fcC 89 9 = 0 := rfl
theorem fC89_10 : fcC 89 10 = 0 := rfl
theorem fC89_11 : fcC 89 11 = 0 := rfl
theorem fC89_12 : fcC 89 12 = 0 := rfl
theorem fC89_13 : fcC 89 13 = 0 := rfl
def kdML : List (Nat × Nat) := [(0, 11), (1, 648), (1, 648), (1, 248), (1, 400), (1, 4), (1, 2048), (1, 2048), (1, 2048), (1, 6), (1, 6), (1, 6), (1, 10), (1, 41), (1, 41), (1, 41)]
def kdM (r : Nat) : Nat × Nat := kdML.getD r (9, 0)
def fcML : List (List Nat) := [[0, 3, 4, 0, 5, 6, 0, 0, 0, 0, 0, 0, 7, 0, 8, 9, 10, 0, 11, 12, 13, 0, 0, 14, 15, 16, 17, 0], [], [], [], [], [], [], [], [], [], [], [], [], [], [], []]
def fcM (r f : Nat) : Nat := (fcML.getD r []).getD f 0
abbrev wM (b : Nat) : WD := (kdM, fcM, 16, b)
theorem kM0 : kdM 0 = (0, 11) := rfl
theorem nM0 : 0 < 16 := by decide
theorem kM1 : kdM 1 = (1, 648) := rfl
theorem nM1 : 1 < 16 := by decide
theorem kM2 : kdM 2 = (1, 648) := rfl
theorem nM2 : 2 < 16 := by decide
theorem kM3 : kdM 3 = (1, 248) := rfl
theorem nM3 : 3 < 16 := by decide
theorem kM4 : kdM 4 = (1, 400) := rfl
theorem nM4 : 4 < 16 := by decide
theorem kM5 : kdM 5 = (1, 4) := rfl
theorem nM5 : 5 < 16 := by decide
theorem kM6 : kdM 6 = (1, 2048) := rfl
theorem nM6 : 6 < 16 := by decide
theorem kM7 : kdM 7 = (1, 2048) := rfl
theorem nM7 : 7 < 16 := by decide
theorem kM8 : kdM 8 = (1, 2048) := rfl
theorem nM8 : 8 < 16 := by decide
theorem kM9 : kdM 9 = (1, 6) := rfl
theorem nM9 : 9 < 16 := by decide
theorem kM10 : kdM 10 = (1, 6) := rfl
theorem nM10 : 10 < 16 := by decide
theorem kM11 : kdM 11 = (1, 6) := rfl
theorem nM11 : 11 < 16 := by decide
theorem kM12 : kdM 12 = (1, 10) := rfl
theorem nM12 : 12 < 16 := by decide
theorem kM13 : kdM 13 = (1, 41) := rfl
theorem nM13 : 13 < 16 := by decide
theorem kM14 : kdM 14 = (1, 41) := rfl
theorem nM14 : 14 < 16 := by decide
theorem kM15 : kdM 15 = (1, 41) := rfl
theorem nM15 : 15 < 16 := by decide
theorem fM0_0 : fcM 0 0 = 0 := rfl
theorem fM0_1 : fcM 0 1 = 1 + 2 := rfl
theorem fM0_2 : fcM 0 2 = 2 + 2 := rfl
theorem fM0_3 : fcM 0 3 = 0 := rfl
theorem fM0_4 : fcM 0 4 = 3 + 2 := rfl
theorem fM0_5 : fcM 0 5 = 4 + 2 := rfl
theorem fM0_6 : fcM 0 6 = 0 := rfl
theorem fM0_7 : fcM 0 7 = 0 := rfl
theorem fM0_8 : fcM 0 8 = 0 := rfl
theorem fM0_9 : fcM 0 9 = 0 := rfl
theorem fM0_10 : fcM 0 10 = 0 := rfl
theorem fM0_11 : fcM 0 11 = 0 := rfl
theorem fM0_12 : fcM 0 12 = 5 + 2 := rfl
theorem fM0_13 : fcM 0 13 = 0 := rfl
theorem fM0_14 : fcM 0 14 = 6 + 2 := rfl
theorem fM0_15 : fcM 0 15 = 7 + 2 := rfl
theorem fM0_16 : fcM 0 16 = 8 + 2 := rfl
theorem fM0_17 : fcM 0 17 = 0 := rfl
theorem fM0_18 : fcM 0 18 = 9 + 2 := rfl
theorem fM0_19 : fcM 0 19 = 10 + 2 := rfl
theorem fM0_20 : fcM 0 20 = 11 + 2 := rfl
theorem fM0_21 : fcM 0 21 = 0 := rfl
theorem fM0_22 : fcM 0 22 = 0 := rfl
theorem fM0_23 : fcM 0 23 = 12 + 2 := rfl
theorem fM0_24 : fcM 0 24 = 13 + 2 := rfl
theorem fM0_25 : fcM 0 25 = 14 + 2 := rfl
theorem fM0_26 : fcM 0 26 = 15 + 2 := rfl
theorem fM0_27 : fcM 0 27 = 0 := rfl
def isRiv (R : Nat) : Prop := R = 6 ∨ R = 14 ∨ R = 22
theorem kisRiv_0 {R : Nat} (h : isRiv R) : kdC (R + 0) = (0, 5) := by rcases h with rfl | rfl | rfl <;> rfl
theorem nisRiv_0 {R : Nat} (h : isRiv R) : R + 0 < 95 := by rcases h with rfl | rfl | rfl <;> decide
theorem kisRiv_1 {R : Nat} (h : isRiv R) : kdC (R + 1) = (1, 10) := by rcases h with rfl | rfl | rfl <;> rfl
theorem nisRiv_1 {R : Nat} (h : isRiv R) : R + 1 < 95 := by rcases h with rfl | rfl | rfl <;> decide
theorem kisRiv_2 {R : Nat} (h : isRiv R) : kdC (R + 2) = (1, 10) := by rcases h with rfl | rfl | rfl <;> rfl
theorem nisRiv_2 {R : Nat} (h : isRiv R) : R + 2 < 95 := by rcases h with rfl | rfl | rfl <;> decide
theorem kisRiv_3 {R : Nat} (h : isRiv R) : kdC (R + 3) = (1, 10) := by rcases h with rfl | rfl | rfl <;> rfl
theorem nisRiv_3 {R : Nat} (h : isRiv R) : R + 3 < 95 := by rcases h with rfl | rfl | rfl <;> decide
theorem kisRiv_4 {R : Nat} (h : isRiv R) : kdC (R + 4) = (1, 24) := by rcases h with rfl | rfl | rfl <;> rfl
theorem nisRiv_4 {R : Nat} (h : isRiv R) : R + 4 < 95 := by rcases h with rfl | rfl | rfl <;> decide
theorem kisRiv_5 {R : Nat} (h : isRiv R) : kdC (R + 5) = (1, 12) := by rcases h with rfl | rfl | rfl <;> rfl
theorem nisRiv_5 {R : Nat} (h : isRiv R) : R + 5 < 95 := by rcases h with rfl | rfl | rfl <;> decide
theorem kisRiv_6 {R : Nat} (h : isRiv R) : kdC (R + 6) = (1, 12) := by rcases h with rfl | rfl | rfl <;> rfl
theorem nisRiv_6 {R : Nat} (h : isRiv R) : R + 6 < 95 := by rcases h with rfl | rfl | rfl <;> decide
theorem kisRiv_7 {R : Nat} (h : isRiv R) : kdC (R + 7) = (1, 10) := by rcases h with rfl | rfl | rfl <;> rfl
theorem nisRiv_7 {R : Nat} (h : isRiv R) : R + 7 < 95 := by rcases h with rfl | rfl | rfl <;> decide
theorem fisRiv_0 {R : Nat} (h : isRiv R) : fcC R 0 = 0 := by rcases h with rfl | rfl | rfl <;> rfl
theorem fisRiv_1 {R : Nat} (h : isRiv R) : fcC R 1 = 0 := by rcases h with rfl | rfl | rfl <;> rfl
theorem fisRiv_2 {R : Nat} (h : isRiv R) : fcC R 2 = R + 1 + 2 := by rcases h with rfl | rfl | rfl <;> rfl
theorem fisRiv_3 {R : Nat} (h : isRiv R) : fcC R 3 = R + 2 + 2 := by rcases h with rfl | rfl | rfl <;> rfl
theorem fisRiv_4 {R : Nat} (h : isRiv R) : fcC R 4 = R + 3 + 2 := by rcases h with rfl | rfl | rfl <;> rfl
theorem fisRiv_5 {R : Nat} (h : isRiv R) : fcC R 5 = 0 := by rcases h with rfl | rfl | rfl <;> rfl
theorem fisRiv_6 {R : Nat} (h : isRiv R) : fcC R 6 = 0 := by rcases h with rfl | rfl | rfl <;> rfl
theorem fisRiv_7 {R : Nat} (h : isRiv R) : fcC R 7 = 0 := by rcases h with rfl | rfl | rfl <;> rfl
theorem fisRiv_8 {R : Nat} (h : isRiv R) : fcC R 8 = 0 := by rcases h with rfl | rfl | rfl <;> rfl
theorem fisRiv_9 {R : Nat} (h : isRiv R) : fcC R 9 = R + 4 + 2 := by rcases h with rfl | rfl | rfl <;> rfl
theorem fisRiv_10 {R : Nat} (h : isRiv R) : fcC R 10 = 0 := by rcases h with rfl | rfl | rfl <;> rfl
theorem fisRiv_11 {R : Nat} (h : isRiv R) : fcC R 11 = R + 5 + 2 := by rcases h with rfl | rfl | rfl <;> rfl
theorem fisRiv_12 {R : Nat} (h : isRiv R) : fcC R 12 = R + 6 + 2 := by rcases h with rfl | rfl | rfl <;> rfl
theorem fisRiv_13 {R : Nat} (h : isRiv R) : fcC R 13 = 0 := by rcases h with rfl | rfl | rfl <;> rfl
theorem fisRiv_14 {R : Nat} (h : isRiv R) : fcC R 14 = R + 7 + 2 := by rcases h with rfl | rfl | rfl <;> rfl
def isBnk (R : Nat) : Prop := R = 30 ∨ R = 44
theorem kisBnk_0 {R : Nat} (h : isBnk R) : kdC (R + 0) = (0, 0) := by rcases h with rfl | rfl <;> rfl
theorem nisBnk_0 {R : Nat} (h : isBnk R) : R + 0 < 95 := by rcases h with rfl | rfl <;> decide
theorem kisBnk_1 {R : Nat} (h : isBnk R) : kdC (R + 1) = (1, 10) := by rcases h with rfl | rfl <;> rfl
theorem nisBnk_1 {R : Nat} (h : isBnk R) : R + 1 < 95 := by rcases h with rfl | rfl <;> decide
theorem kisBnk_2 {R : Nat} (h : isBnk R) : kdC (R + 2) = (5, 10) := by rcases h with rfl | rfl <;> rfl
theorem nisBnk_2 {R : Nat} (h : isBnk R) : R + 2 < 95 := by rcases h with rfl | rfl <;> decide
theorem kisBnk_3 {R : Nat} (h : isBnk R) : kdC (R + 3) = (1, 10) := by rcases h with rfl | rfl <;> rfl
theorem nisBnk_3 {R : Nat} (h : isBnk R) : R + 3 < 95 := by rcases h with rfl | rfl <;> decide
theorem kisBnk_4 {R : Nat} (h : isBnk R) : kdC (R + 4) = (1, 10) := by rcases h with rfl | rfl <;> rfl
theorem nisBnk_4 {R : Nat} (h : isBnk R) : R + 4 < 95 := by rcases h with rfl | rfl <;> decide
theorem kisBnk_5 {R : Nat} (h : isBnk R) : kdC (R + 5) = (1, 10) := by rcases h with rfl | rfl <;> rfl
theorem nisBnk_5 {R : Nat} (h : isBnk R) : R + 5 < 95 := by rcases h with rfl | rfl <;> decide
theorem kisBnk_6 {R : Nat} (h : isBnk R) : kdC (R + 6) = (1, 10) := by rcases h with rfl | rfl <;> rfl
theorem nisBnk_6 {R : Nat} (h : isBnk R) : R + 6 < 95 := by rcases h with rfl | rfl <;> decide
theorem kisBnk_7 {R : Nat} (h : isBnk R) : kdC (R + 7) = (1, 10) := by rcases h with rfl | rfl <;> rfl
theorem nisBnk_7 {R : Nat} (h : isBnk R) : R + 7 < 95 := by rcases h with rfl | rfl <;> decide
theorem kisBnk_8 {R : Nat} (h : isBnk R) : kdC (R + 8) = (1, 10) := by rcases h with rfl | rfl <;> rfl
theorem nisBnk_8 {R : Nat} (h : isBnk R) : R + 8 < 95 := by rcases h with rfl | rfl <;> decide
theorem kisBnk_9 {R : Nat} (h : isBnk R) : kdC (R + 9) = (1, 10) := by rcases h with rfl | rfl <;> rfl
theorem nisBnk_9 {R : Nat} (h : isBnk R) : R + 9 < 95 := by rcases h with rfl | rfl <;> decide
theorem kisBnk_10 {R : Nat} (h : isBnk R) : kdC (R + 10) = (1, 10) := by rcases h with rfl | rfl <;> rfl
theorem nisBnk_10 {R : Nat} (h : isBnk R) : R + 10 < 95 := by rcases h with rfl | rfl <;> decide
theorem kisBnk_11 {R : Nat} (h : isBnk R) : kdC (R + 11) = (1, 10) := by rcases h with rfl | rfl <;> rfl
theorem nisBnk_11 {R : Nat} (h : isBnk R) : R + 11 < 95 := by rcases h with rfl | rfl <;> decide
theorem kisBnk_12 {R : Nat} (h : isBnk R) : kdC (R + 12) = (1, 10) := by rcases h with rfl | rfl <;> rfl
theorem nisBnk_12 {R : Nat} (h : isBnk R) : R + 12 < 95 := by rcases h with rfl | rfl <;> decide
theorem kisBnk_13 {R : Nat} (h : isBnk R) : kdC (R + 13) = (1, 10) := by rcases h with rfl | rfl <;> rfl
theorem nisBnk_13 {R : Nat} (h : isBnk R) : R + 13 < 95 := by rcases h with rfl | rfl <;> decide
theorem fisBnk_0 {R : Nat} (h : isBnk R) : fcC R 0 = 0 := by rcases h with rfl | rfl <;> rfl
theorem fisBnk_1 {R : Nat} (h : isBnk R) : fcC R 1 = 0 := by rcases h with rfl | rfl <;> rfl
theorem fisBnk_2 {R : Nat} (h : isBnk R) : fcC R 2 = 0 := by rcases h with rfl | rfl <;> rfl
theorem fisBnk_3 {R : Nat} (h : isBnk R) : fcC R 3 = 0 := by rcases h with rfl | rfl <;> rfl
theorem fisBnk_4 {R : Nat} (h : isBnk R) : fcC R 4 = 0 := by rcases h with rfl | rfl <;> rfl
theorem fisBnk_5 {R : Nat} (h : isBnk R) : fcC R 5 = R + 1 + 2 := by rcases h with rfl | rfl <;> rfl
theorem fisBnk_6 {R : Nat} (h : isBnk R) : fcC R 6 = R + 2 + 2 := by rcases h with rfl | rfl <;> rfl
theorem fisBnk_7 {R : Nat} (h : isBnk R) : fcC R 7 = R + 13 + 2 := by rcases h with rfl | rfl <;> rfl
def isRul (R : Nat) : Prop := R = 58 ∨ R = 63 ∨ R = 68
theorem kisRul_0 {R : Nat} (h : isRul R) : kdC (R + 0) = (0, 7) := by rcases h with rfl | rfl | rfl <;> rfl
theorem nisRul_0 {R : Nat} (h : isRul R) : R + 0 < 95 := by rcases h with rfl | rfl | rfl <;> decide
theorem kisRul_1 {R : Nat} (h : isRul R) : kdC (R + 1) = (1, 12) := by rcases h with rfl | rfl | rfl <;> rfl
theorem nisRul_1 {R : Nat} (h : isRul R) : R + 1 < 95 := by rcases h with rfl | rfl | rfl <;> decide
theorem kisRul_2 {R : Nat} (h : isRul R) : kdC (R + 2) = (1, 12) := by rcases h with rfl | rfl | rfl <;> rfl
theorem nisRul_2 {R : Nat} (h : isRul R) : R + 2 < 95 := by rcases h with rfl | rfl | rfl <;> decide
theorem kisRul_3 {R : Nat} (h : isRul R) : kdC (R + 3) = (1, 400) := by rcases h with rfl | rfl | rfl <;> rfl
theorem nisRul_3 {R : Nat} (h : isRul R) : R + 3 < 95 := by rcases h with rfl | rfl | rfl <;> decide
theorem kisRul_4 {R : Nat} (h : isRul R) : kdC (R + 4) = (1, 40) := by rcases h with rfl | rfl | rfl <;> rfl
theorem nisRul_4 {R : Nat} (h : isRul R) : R + 4 < 95 := by rcases h with rfl | rfl | rfl <;> decide
theorem fisRul_0 {R : Nat} (h : isRul R) : fcC R 0 = 0 := by rcases h with rfl | rfl | rfl <;> rfl
theorem fisRul_1 {R : Nat} (h : isRul R) : fcC R 1 = R + 1 + 2 := by rcases h with rfl | rfl | rfl <;> rfl
theorem fisRul_2 {R : Nat} (h : isRul R) : fcC R 2 = R + 2 + 2 := by rcases h with rfl | rfl | rfl <;> rfl
theorem fisRul_3 {R : Nat} (h : isRul R) : fcC R 3 = R + 3 + 2 := by rcases h with rfl | rfl | rfl <;> rfl
theorem fisRul_4 {R : Nat} (h : isRul R) : fcC R 4 = 0 := by rcases h with rfl | rfl | rfl <;> rfl
theorem fisRul_5 {R : Nat} (h : isRul R) : fcC R 5 = R + 4 + 2 := by rcases h with rfl | rfl | rfl <;> rfl
theorem fisRul_6 {R : Nat} (h : isRul R) : fcC R 6 = 0 := by rcases h with rfl | rfl | rfl <;> rfl
theorem fisRul_7 {R : Nat} (h : isRul R) : fcC R 7 = 0 := by rcases h with rfl | rfl | rfl <;> rfl
theorem fisRul_8 {R : Nat} (h : isRul R) : fcC R 8 = 0 := by rcases h with rfl | rfl | rfl <;> rfl
theorem fisRul_9 {R : Nat} (h : isRul R) : fcC R 9 = 0 := by rcases h with rfl | rfl | rfl <;> rfl
theorem kRow {R : Nat} (h : isBnk R) {i : Int32} (hi : inb i 10 = true) : kdC (R + 2 + 1 + i.toNatClampNeg) = (1, 10) := by
  have hlt : i.toNatClampNeg < 10 := Nat.not_le.mp fun q => inb_in hi (Or.inr q)
  generalize i.toNatClampNeg = j at hlt ⊢
  have key : ∀ j, j < 10 → kdC (30 + 2 + 1 + j) = (1, 10) ∧ kdC (44 + 2 + 1 + j) = (1, 10) := by decide
  rcases h with rfl | rfl
  · exact (key j hlt).1
  · exact (key j hlt).2
theorem nRow {R : Nat} (h : isBnk R) {i : Int32} (hi : inb i 10 = true) : R + 2 + 1 + i.toNatClampNeg < 95 := by
  have hlt : i.toNatClampNeg < 10 := Nat.not_le.mp fun q => inb_in hi (Or.inr q)
  rcases h with rfl | rfl <;> omega
