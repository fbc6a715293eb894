def tb_S0 : MS := [(10, 15), (12, 1600), (8, 20), (13, 10), (13, 10), (13, 10), (13, 10), (13, 10), (13, 10), (13, 4), (13, 4), (13, 4), (13, 4), (13, 4), (13, 4), (0, 6), (13, 640), (13, 11), (13, 11), (13, 32), (5, 10), (3, 8), (14, 26), (12, 0), (14, 6), (14, 10), (14, 4), (1, 4), (8, 20), (13, 10), (13, 10), (13, 10), (13, 10), (13, 10), (13, 10), (13, 4), (13, 4), (13, 4), (13, 4), (13, 4), (13, 4), (0, 6), (13, 640), (13, 11), (13, 11), (13, 32), (13, 10), (7, 12), (13, 10), (13, 10), (13, 10), (13, 10), (13, 10), (13, 4), (13, 4), (13, 4), (13, 4), (13, 4), (13, 60), (2, 4), (16, 41), (16, 3), (15, 3), (6, 11), (16, 9), (13, 8), (9, 11), (7, 12), (13, 10), (13, 10), (13, 10), (13, 10), (13, 10), (13, 4), (13, 4), (13, 4), (13, 4), (13, 4), (13, 60), (13, 36), (13, 4), (13, 10), (13, 4), (4, 7), (13, 30), (13, 30), (13, 30), (13, 30), (13, 30), (13, 36)]
def tb_SM : MS := [(11, 95), (13, 1600), (13, 3520), (13, 3520), (13, 11), (13, 3520), (13, 3520), (13, 11), (13, 160), (13, 64), (14, 20), (13, 10), (13, 10), (13, 10), (13, 10), (13, 10), (13, 4), (13, 4), (13, 4), (13, 4), (13, 4), (13, 4), (15, 10), (13, 10), (13, 10), (13, 10), (13, 10), (13, 10), (13, 4), (13, 4), (13, 4), (13, 4), (13, 4), (13, 4), (15, 10), (13, 128), (13, 128), (13, 5120), (13, 2048), (13, 16), (13, 16), (13, 16), (13, 16), (13, 16), (13, 16), (13, 4), (13, 4), (13, 40), (13, 36), (13, 30), (13, 30), (13, 30), (13, 30), (13, 30), (15, 3), (13, 384)]
def tb_R0 : List (Nat × Nat × Nat) := [(0, 0, 1), (0, 3, 20), (0, 4, 27), (0, 5, 47), (0, 6, 59), (0, 7, 61), (0, 8, 62), (0, 9, 63), (0, 10, 66), (0, 11, 83), (0, 13, 89), (2, 5, 3), (2, 6, 4), (2, 7, 5), (2, 8, 6), (2, 9, 7), (2, 10, 8), (2, 12, 9), (2, 13, 10), (2, 14, 11), (2, 15, 12), (2, 16, 13), (2, 17, 14), (2, 19, 15), (15, 0, 16), (15, 1, 17), (15, 2, 18), (15, 3, 19), (20, 0, 21), (20, 1, 24), (20, 2, 25), (20, 3, 26), (21, 0, 22), (27, 1, 46), (28, 5, 29), (28, 6, 30), (28, 7, 31), (28, 8, 32), (28, 9, 33), (28, 10, 34), (28, 12, 35), (28, 13, 36), (28, 14, 37), (28, 15, 38), (28, 16, 39), (28, 17, 40), (28, 19, 41), (41, 0, 42), (41, 1, 43), (41, 2, 44), (41, 3, 45), (47, 0, 48), (47, 1, 49), (47, 2, 50), (47, 3, 51), (47, 4, 52), (47, 5, 53), (47, 6, 54), (47, 7, 55), (47, 8, 56), (47, 9, 57), (47, 10, 58), (59, 0, 60), (63, 0, 27), (63, 1, 64), (63, 5, 65), (66, 0, 27), (66, 1, 67), (66, 2, 79), (66, 3, 80), (66, 4, 81), (66, 5, 82), (67, 0, 68), (67, 1, 69), (67, 2, 70), (67, 3, 71), (67, 4, 72), (67, 5, 73), (67, 6, 74), (67, 7, 75), (67, 8, 76), (67, 9, 77), (67, 10, 78), (83, 0, 66), (83, 1, 84), (83, 2, 85), (83, 3, 86), (83, 4, 87), (83, 5, 88)]
def tb_RM : List (Nat × Nat × Nat) := [(102, 0, 103), (102, 10, 104), (102, 11, 105), (102, 12, 106), (102, 13, 107), (102, 14, 108), (102, 15, 109), (102, 16, 110), (102, 17, 111), (102, 24, 112), (102, 25, 113), (102, 26, 114), (102, 27, 115), (102, 28, 116), (102, 29, 117), (102, 30, 118), (102, 31, 119), (102, 32, 120), (102, 33, 121), (102, 34, 122), (102, 35, 123), (102, 36, 124), (102, 37, 125), (102, 38, 126), (102, 39, 127), (102, 40, 128), (102, 41, 129), (102, 42, 130), (102, 43, 131), (102, 44, 132), (102, 45, 133), (102, 46, 134), (102, 47, 135), (102, 48, 136), (102, 66, 137), (102, 67, 138), (102, 70, 139), (102, 73, 140), (102, 74, 141), (102, 75, 142), (102, 76, 143), (102, 77, 144), (102, 78, 145), (102, 79, 146), (102, 81, 147), (102, 82, 148), (102, 83, 149), (102, 84, 150), (102, 86, 151), (102, 87, 152), (102, 88, 153), (102, 89, 154), (102, 90, 155), (102, 93, 156), (102, 94, 157)]
def okr (R : MR) (S : MS) : Prop := tb_S0 <+: S ∧ ∀ e ∈ tb_R0, R e.1 e.2.1 = some e.2.2
theorem okS {R : MR} {S : MS} (h : okr R S) (a : Nat) {kn : Nat × Nat} (h0 : tb_S0[a]? = some kn) : S[a]? = some kn := by
  obtain ⟨⟨r, hr⟩, -⟩ := h
  rw [← hr, List.getElem?_append_left (List.getElem?_eq_some_iff.mp h0).1]
  exact h0
theorem okR {R : MR} {S : MS} (h : okr R S) (i : Nat) {a j v : Nat} (h0 : tb_R0[i]? = some (a, j, v)) : R a j = some v := h.2 _ (List.mem_of_getElem? h0)
def okm (R : MR) (S : MS) : Prop := (∀ k kn, tb_SM[k]? = some kn → S[102 + k]? = some kn) ∧ ∀ e ∈ tb_RM, R e.1 e.2.1 = some e.2.2
theorem omS {R : MR} {S : MS} (h : okm R S) (a : Nat) {kn : Nat × Nat} (h0 : tb_SM[a]? = some kn) : S[102 + a]? = some kn := h.1 a kn h0
theorem omR {R : MR} {S : MS} (h : okm R S) (i : Nat) {a j v : Nat} (h0 : tb_RM[i]? = some (a, j, v)) : R a j = some v := h.2 _ (List.mem_of_getElem? h0)
def isT (t : Nat) : Prop := t = 2 ∨ t = 28
def isSt (R : MR) (S : MS) (q : Nat) : Prop := (∀ j, j < 11 → R q j = some (q + 1 + j)) ∧ S[q]? = some (7, 12) ∧ (∀ j, j < 5 → S[q + 1 + j]? = some (13, 10)) ∧ (∀ j, j < 5 → S[q + 6 + j]? = some (13, 4)) ∧ S[q + 11]? = some (13, 60)
theorem S_0 {R : MR} {S : MS} (h : okr R S) : S[0]? = some (10, 15) := okS h 0 rfl
theorem S_1 {R : MR} {S : MS} (h : okr R S) : S[1]? = some (12, 1600) := okS h 1 rfl
theorem S_2 {R : MR} {S : MS} (h : okr R S) : S[2]? = some (8, 20) := okS h 2 rfl
theorem S_3 {R : MR} {S : MS} (h : okr R S) : S[3]? = some (13, 10) := okS h 3 rfl
theorem S_4 {R : MR} {S : MS} (h : okr R S) : S[4]? = some (13, 10) := okS h 4 rfl
theorem S_5 {R : MR} {S : MS} (h : okr R S) : S[5]? = some (13, 10) := okS h 5 rfl
theorem S_6 {R : MR} {S : MS} (h : okr R S) : S[6]? = some (13, 10) := okS h 6 rfl
theorem S_7 {R : MR} {S : MS} (h : okr R S) : S[7]? = some (13, 10) := okS h 7 rfl
theorem S_8 {R : MR} {S : MS} (h : okr R S) : S[8]? = some (13, 10) := okS h 8 rfl
theorem S_9 {R : MR} {S : MS} (h : okr R S) : S[9]? = some (13, 4) := okS h 9 rfl
theorem S_10 {R : MR} {S : MS} (h : okr R S) : S[10]? = some (13, 4) := okS h 10 rfl
theorem S_11 {R : MR} {S : MS} (h : okr R S) : S[11]? = some (13, 4) := okS h 11 rfl
theorem S_12 {R : MR} {S : MS} (h : okr R S) : S[12]? = some (13, 4) := okS h 12 rfl
theorem S_13 {R : MR} {S : MS} (h : okr R S) : S[13]? = some (13, 4) := okS h 13 rfl
theorem S_14 {R : MR} {S : MS} (h : okr R S) : S[14]? = some (13, 4) := okS h 14 rfl
theorem S_15 {R : MR} {S : MS} (h : okr R S) : S[15]? = some (0, 6) := okS h 15 rfl
theorem S_16 {R : MR} {S : MS} (h : okr R S) : S[16]? = some (13, 640) := okS h 16 rfl
theorem S_17 {R : MR} {S : MS} (h : okr R S) : S[17]? = some (13, 11) := okS h 17 rfl
theorem S_18 {R : MR} {S : MS} (h : okr R S) : S[18]? = some (13, 11) := okS h 18 rfl
theorem S_19 {R : MR} {S : MS} (h : okr R S) : S[19]? = some (13, 32) := okS h 19 rfl
theorem S_20 {R : MR} {S : MS} (h : okr R S) : S[20]? = some (5, 10) := okS h 20 rfl
theorem S_21 {R : MR} {S : MS} (h : okr R S) : S[21]? = some (3, 8) := okS h 21 rfl
theorem S_22 {R : MR} {S : MS} (h : okr R S) : S[22]? = some (14, 26) := okS h 22 rfl
theorem S_23 {R : MR} {S : MS} (h : okr R S) : S[23]? = some (12, 0) := okS h 23 rfl
theorem S_24 {R : MR} {S : MS} (h : okr R S) : S[24]? = some (14, 6) := okS h 24 rfl
theorem S_25 {R : MR} {S : MS} (h : okr R S) : S[25]? = some (14, 10) := okS h 25 rfl
theorem S_26 {R : MR} {S : MS} (h : okr R S) : S[26]? = some (14, 4) := okS h 26 rfl
theorem S_27 {R : MR} {S : MS} (h : okr R S) : S[27]? = some (1, 4) := okS h 27 rfl
theorem S_28 {R : MR} {S : MS} (h : okr R S) : S[28]? = some (8, 20) := okS h 28 rfl
theorem S_29 {R : MR} {S : MS} (h : okr R S) : S[29]? = some (13, 10) := okS h 29 rfl
theorem S_30 {R : MR} {S : MS} (h : okr R S) : S[30]? = some (13, 10) := okS h 30 rfl
theorem S_31 {R : MR} {S : MS} (h : okr R S) : S[31]? = some (13, 10) := okS h 31 rfl
theorem S_32 {R : MR} {S : MS} (h : okr R S) : S[32]? = some (13, 10) := okS h 32 rfl
theorem S_33 {R : MR} {S : MS} (h : okr R S) : S[33]? = some (13, 10) := okS h 33 rfl
theorem S_34 {R : MR} {S : MS} (h : okr R S) : S[34]? = some (13, 10) := okS h 34 rfl
theorem S_35 {R : MR} {S : MS} (h : okr R S) : S[35]? = some (13, 4) := okS h 35 rfl
theorem S_36 {R : MR} {S : MS} (h : okr R S) : S[36]? = some (13, 4) := okS h 36 rfl
theorem S_37 {R : MR} {S : MS} (h : okr R S) : S[37]? = some (13, 4) := okS h 37 rfl
theorem S_38 {R : MR} {S : MS} (h : okr R S) : S[38]? = some (13, 4) := okS h 38 rfl
theorem S_39 {R : MR} {S : MS} (h : okr R S) : S[39]? = some (13, 4) := okS h 39 rfl
theorem S_40 {R : MR} {S : MS} (h : okr R S) : S[40]? = some (13, 4) := okS h 40 rfl
theorem S_41 {R : MR} {S : MS} (h : okr R S) : S[41]? = some (0, 6) := okS h 41 rfl
theorem S_42 {R : MR} {S : MS} (h : okr R S) : S[42]? = some (13, 640) := okS h 42 rfl
theorem S_43 {R : MR} {S : MS} (h : okr R S) : S[43]? = some (13, 11) := okS h 43 rfl
theorem S_44 {R : MR} {S : MS} (h : okr R S) : S[44]? = some (13, 11) := okS h 44 rfl
theorem S_45 {R : MR} {S : MS} (h : okr R S) : S[45]? = some (13, 32) := okS h 45 rfl
theorem S_46 {R : MR} {S : MS} (h : okr R S) : S[46]? = some (13, 10) := okS h 46 rfl
theorem S_47 {R : MR} {S : MS} (h : okr R S) : S[47]? = some (7, 12) := okS h 47 rfl
theorem S_48 {R : MR} {S : MS} (h : okr R S) : S[48]? = some (13, 10) := okS h 48 rfl
theorem S_49 {R : MR} {S : MS} (h : okr R S) : S[49]? = some (13, 10) := okS h 49 rfl
theorem S_50 {R : MR} {S : MS} (h : okr R S) : S[50]? = some (13, 10) := okS h 50 rfl
theorem S_51 {R : MR} {S : MS} (h : okr R S) : S[51]? = some (13, 10) := okS h 51 rfl
theorem S_52 {R : MR} {S : MS} (h : okr R S) : S[52]? = some (13, 10) := okS h 52 rfl
theorem S_53 {R : MR} {S : MS} (h : okr R S) : S[53]? = some (13, 4) := okS h 53 rfl
theorem S_54 {R : MR} {S : MS} (h : okr R S) : S[54]? = some (13, 4) := okS h 54 rfl
theorem S_55 {R : MR} {S : MS} (h : okr R S) : S[55]? = some (13, 4) := okS h 55 rfl
theorem S_56 {R : MR} {S : MS} (h : okr R S) : S[56]? = some (13, 4) := okS h 56 rfl
theorem S_57 {R : MR} {S : MS} (h : okr R S) : S[57]? = some (13, 4) := okS h 57 rfl
theorem S_58 {R : MR} {S : MS} (h : okr R S) : S[58]? = some (13, 60) := okS h 58 rfl
theorem S_59 {R : MR} {S : MS} (h : okr R S) : S[59]? = some (2, 4) := okS h 59 rfl
theorem S_60 {R : MR} {S : MS} (h : okr R S) : S[60]? = some (16, 41) := okS h 60 rfl
theorem S_61 {R : MR} {S : MS} (h : okr R S) : S[61]? = some (16, 3) := okS h 61 rfl
theorem S_62 {R : MR} {S : MS} (h : okr R S) : S[62]? = some (15, 3) := okS h 62 rfl
theorem S_63 {R : MR} {S : MS} (h : okr R S) : S[63]? = some (6, 11) := okS h 63 rfl
theorem S_64 {R : MR} {S : MS} (h : okr R S) : S[64]? = some (16, 9) := okS h 64 rfl
theorem S_65 {R : MR} {S : MS} (h : okr R S) : S[65]? = some (13, 8) := okS h 65 rfl
theorem S_66 {R : MR} {S : MS} (h : okr R S) : S[66]? = some (9, 11) := okS h 66 rfl
theorem S_67 {R : MR} {S : MS} (h : okr R S) : S[67]? = some (7, 12) := okS h 67 rfl
theorem S_68 {R : MR} {S : MS} (h : okr R S) : S[68]? = some (13, 10) := okS h 68 rfl
theorem S_69 {R : MR} {S : MS} (h : okr R S) : S[69]? = some (13, 10) := okS h 69 rfl
theorem S_70 {R : MR} {S : MS} (h : okr R S) : S[70]? = some (13, 10) := okS h 70 rfl
theorem S_71 {R : MR} {S : MS} (h : okr R S) : S[71]? = some (13, 10) := okS h 71 rfl
theorem S_72 {R : MR} {S : MS} (h : okr R S) : S[72]? = some (13, 10) := okS h 72 rfl
theorem S_73 {R : MR} {S : MS} (h : okr R S) : S[73]? = some (13, 4) := okS h 73 rfl
theorem S_74 {R : MR} {S : MS} (h : okr R S) : S[74]? = some (13, 4) := okS h 74 rfl
theorem S_75 {R : MR} {S : MS} (h : okr R S) : S[75]? = some (13, 4) := okS h 75 rfl
theorem S_76 {R : MR} {S : MS} (h : okr R S) : S[76]? = some (13, 4) := okS h 76 rfl
theorem S_77 {R : MR} {S : MS} (h : okr R S) : S[77]? = some (13, 4) := okS h 77 rfl
theorem S_78 {R : MR} {S : MS} (h : okr R S) : S[78]? = some (13, 60) := okS h 78 rfl
theorem S_79 {R : MR} {S : MS} (h : okr R S) : S[79]? = some (13, 36) := okS h 79 rfl
theorem S_80 {R : MR} {S : MS} (h : okr R S) : S[80]? = some (13, 4) := okS h 80 rfl
theorem S_81 {R : MR} {S : MS} (h : okr R S) : S[81]? = some (13, 10) := okS h 81 rfl
theorem S_82 {R : MR} {S : MS} (h : okr R S) : S[82]? = some (13, 4) := okS h 82 rfl
theorem S_83 {R : MR} {S : MS} (h : okr R S) : S[83]? = some (4, 7) := okS h 83 rfl
theorem S_84 {R : MR} {S : MS} (h : okr R S) : S[84]? = some (13, 30) := okS h 84 rfl
theorem S_85 {R : MR} {S : MS} (h : okr R S) : S[85]? = some (13, 30) := okS h 85 rfl
theorem S_86 {R : MR} {S : MS} (h : okr R S) : S[86]? = some (13, 30) := okS h 86 rfl
theorem S_87 {R : MR} {S : MS} (h : okr R S) : S[87]? = some (13, 30) := okS h 87 rfl
theorem S_88 {R : MR} {S : MS} (h : okr R S) : S[88]? = some (13, 30) := okS h 88 rfl
theorem S_89 {R : MR} {S : MS} (h : okr R S) : S[89]? = some (13, 36) := okS h 89 rfl
theorem S_102 {R : MR} {S : MS} (h : okm R S) : S[102]? = some (11, 95) := omS h 0 rfl
theorem S_103 {R : MR} {S : MS} (h : okm R S) : S[103]? = some (13, 1600) := omS h 1 rfl
theorem S_104 {R : MR} {S : MS} (h : okm R S) : S[104]? = some (13, 3520) := omS h 2 rfl
theorem S_105 {R : MR} {S : MS} (h : okm R S) : S[105]? = some (13, 3520) := omS h 3 rfl
theorem S_106 {R : MR} {S : MS} (h : okm R S) : S[106]? = some (13, 11) := omS h 4 rfl
theorem S_107 {R : MR} {S : MS} (h : okm R S) : S[107]? = some (13, 3520) := omS h 5 rfl
theorem S_108 {R : MR} {S : MS} (h : okm R S) : S[108]? = some (13, 3520) := omS h 6 rfl
theorem S_109 {R : MR} {S : MS} (h : okm R S) : S[109]? = some (13, 11) := omS h 7 rfl
theorem S_110 {R : MR} {S : MS} (h : okm R S) : S[110]? = some (13, 160) := omS h 8 rfl
theorem S_111 {R : MR} {S : MS} (h : okm R S) : S[111]? = some (13, 64) := omS h 9 rfl
theorem S_112 {R : MR} {S : MS} (h : okm R S) : S[112]? = some (14, 20) := omS h 10 rfl
theorem S_113 {R : MR} {S : MS} (h : okm R S) : S[113]? = some (13, 10) := omS h 11 rfl
theorem S_114 {R : MR} {S : MS} (h : okm R S) : S[114]? = some (13, 10) := omS h 12 rfl
theorem S_115 {R : MR} {S : MS} (h : okm R S) : S[115]? = some (13, 10) := omS h 13 rfl
theorem S_116 {R : MR} {S : MS} (h : okm R S) : S[116]? = some (13, 10) := omS h 14 rfl
theorem S_117 {R : MR} {S : MS} (h : okm R S) : S[117]? = some (13, 10) := omS h 15 rfl
theorem S_118 {R : MR} {S : MS} (h : okm R S) : S[118]? = some (13, 4) := omS h 16 rfl
theorem S_119 {R : MR} {S : MS} (h : okm R S) : S[119]? = some (13, 4) := omS h 17 rfl
theorem S_120 {R : MR} {S : MS} (h : okm R S) : S[120]? = some (13, 4) := omS h 18 rfl
theorem S_121 {R : MR} {S : MS} (h : okm R S) : S[121]? = some (13, 4) := omS h 19 rfl
theorem S_122 {R : MR} {S : MS} (h : okm R S) : S[122]? = some (13, 4) := omS h 20 rfl
theorem S_123 {R : MR} {S : MS} (h : okm R S) : S[123]? = some (13, 4) := omS h 21 rfl
theorem S_124 {R : MR} {S : MS} (h : okm R S) : S[124]? = some (15, 10) := omS h 22 rfl
theorem S_125 {R : MR} {S : MS} (h : okm R S) : S[125]? = some (13, 10) := omS h 23 rfl
theorem S_126 {R : MR} {S : MS} (h : okm R S) : S[126]? = some (13, 10) := omS h 24 rfl
theorem S_127 {R : MR} {S : MS} (h : okm R S) : S[127]? = some (13, 10) := omS h 25 rfl
theorem S_128 {R : MR} {S : MS} (h : okm R S) : S[128]? = some (13, 10) := omS h 26 rfl
theorem S_129 {R : MR} {S : MS} (h : okm R S) : S[129]? = some (13, 10) := omS h 27 rfl
theorem S_130 {R : MR} {S : MS} (h : okm R S) : S[130]? = some (13, 4) := omS h 28 rfl
theorem S_131 {R : MR} {S : MS} (h : okm R S) : S[131]? = some (13, 4) := omS h 29 rfl
theorem S_132 {R : MR} {S : MS} (h : okm R S) : S[132]? = some (13, 4) := omS h 30 rfl
theorem S_133 {R : MR} {S : MS} (h : okm R S) : S[133]? = some (13, 4) := omS h 31 rfl
theorem S_134 {R : MR} {S : MS} (h : okm R S) : S[134]? = some (13, 4) := omS h 32 rfl
theorem S_135 {R : MR} {S : MS} (h : okm R S) : S[135]? = some (13, 4) := omS h 33 rfl
theorem S_136 {R : MR} {S : MS} (h : okm R S) : S[136]? = some (15, 10) := omS h 34 rfl
theorem S_137 {R : MR} {S : MS} (h : okm R S) : S[137]? = some (13, 128) := omS h 35 rfl
theorem S_138 {R : MR} {S : MS} (h : okm R S) : S[138]? = some (13, 128) := omS h 36 rfl
theorem S_139 {R : MR} {S : MS} (h : okm R S) : S[139]? = some (13, 5120) := omS h 37 rfl
theorem S_140 {R : MR} {S : MS} (h : okm R S) : S[140]? = some (13, 2048) := omS h 38 rfl
theorem S_141 {R : MR} {S : MS} (h : okm R S) : S[141]? = some (13, 16) := omS h 39 rfl
theorem S_142 {R : MR} {S : MS} (h : okm R S) : S[142]? = some (13, 16) := omS h 40 rfl
theorem S_143 {R : MR} {S : MS} (h : okm R S) : S[143]? = some (13, 16) := omS h 41 rfl
theorem S_144 {R : MR} {S : MS} (h : okm R S) : S[144]? = some (13, 16) := omS h 42 rfl
theorem S_145 {R : MR} {S : MS} (h : okm R S) : S[145]? = some (13, 16) := omS h 43 rfl
theorem S_146 {R : MR} {S : MS} (h : okm R S) : S[146]? = some (13, 16) := omS h 44 rfl
theorem S_147 {R : MR} {S : MS} (h : okm R S) : S[147]? = some (13, 4) := omS h 45 rfl
theorem S_148 {R : MR} {S : MS} (h : okm R S) : S[148]? = some (13, 4) := omS h 46 rfl
theorem S_149 {R : MR} {S : MS} (h : okm R S) : S[149]? = some (13, 40) := omS h 47 rfl
theorem S_150 {R : MR} {S : MS} (h : okm R S) : S[150]? = some (13, 36) := omS h 48 rfl
theorem S_151 {R : MR} {S : MS} (h : okm R S) : S[151]? = some (13, 30) := omS h 49 rfl
theorem S_152 {R : MR} {S : MS} (h : okm R S) : S[152]? = some (13, 30) := omS h 50 rfl
theorem S_153 {R : MR} {S : MS} (h : okm R S) : S[153]? = some (13, 30) := omS h 51 rfl
theorem S_154 {R : MR} {S : MS} (h : okm R S) : S[154]? = some (13, 30) := omS h 52 rfl
theorem S_155 {R : MR} {S : MS} (h : okm R S) : S[155]? = some (13, 30) := omS h 53 rfl
theorem S_156 {R : MR} {S : MS} (h : okm R S) : S[156]? = some (15, 3) := omS h 54 rfl
theorem S_157 {R : MR} {S : MS} (h : okm R S) : S[157]? = some (13, 384) := omS h 55 rfl
theorem R_102_0 {R : MR} {S : MS} (h : okm R S) : R 102 0 = some 103 := omR h 0 rfl
theorem R_102_10 {R : MR} {S : MS} (h : okm R S) : R 102 10 = some 104 := omR h 1 rfl
theorem R_102_11 {R : MR} {S : MS} (h : okm R S) : R 102 11 = some 105 := omR h 2 rfl
theorem R_102_12 {R : MR} {S : MS} (h : okm R S) : R 102 12 = some 106 := omR h 3 rfl
theorem R_102_13 {R : MR} {S : MS} (h : okm R S) : R 102 13 = some 107 := omR h 4 rfl
theorem R_102_14 {R : MR} {S : MS} (h : okm R S) : R 102 14 = some 108 := omR h 5 rfl
theorem R_102_15 {R : MR} {S : MS} (h : okm R S) : R 102 15 = some 109 := omR h 6 rfl
theorem R_102_16 {R : MR} {S : MS} (h : okm R S) : R 102 16 = some 110 := omR h 7 rfl
theorem R_102_17 {R : MR} {S : MS} (h : okm R S) : R 102 17 = some 111 := omR h 8 rfl
theorem R_102_24 {R : MR} {S : MS} (h : okm R S) : R 102 24 = some 112 := omR h 9 rfl
theorem R_102_25 {R : MR} {S : MS} (h : okm R S) : R 102 25 = some 113 := omR h 10 rfl
theorem R_102_26 {R : MR} {S : MS} (h : okm R S) : R 102 26 = some 114 := omR h 11 rfl
theorem R_102_27 {R : MR} {S : MS} (h : okm R S) : R 102 27 = some 115 := omR h 12 rfl
theorem R_102_28 {R : MR} {S : MS} (h : okm R S) : R 102 28 = some 116 := omR h 13 rfl
theorem R_102_29 {R : MR} {S : MS} (h : okm R S) : R 102 29 = some 117 := omR h 14 rfl
theorem R_102_30 {R : MR} {S : MS} (h : okm R S) : R 102 30 = some 118 := omR h 15 rfl
theorem R_102_31 {R : MR} {S : MS} (h : okm R S) : R 102 31 = some 119 := omR h 16 rfl
theorem R_102_32 {R : MR} {S : MS} (h : okm R S) : R 102 32 = some 120 := omR h 17 rfl
theorem R_102_33 {R : MR} {S : MS} (h : okm R S) : R 102 33 = some 121 := omR h 18 rfl
theorem R_102_34 {R : MR} {S : MS} (h : okm R S) : R 102 34 = some 122 := omR h 19 rfl
theorem R_102_35 {R : MR} {S : MS} (h : okm R S) : R 102 35 = some 123 := omR h 20 rfl
theorem R_102_36 {R : MR} {S : MS} (h : okm R S) : R 102 36 = some 124 := omR h 21 rfl
theorem R_102_37 {R : MR} {S : MS} (h : okm R S) : R 102 37 = some 125 := omR h 22 rfl
theorem R_102_38 {R : MR} {S : MS} (h : okm R S) : R 102 38 = some 126 := omR h 23 rfl
theorem R_102_39 {R : MR} {S : MS} (h : okm R S) : R 102 39 = some 127 := omR h 24 rfl
theorem R_102_40 {R : MR} {S : MS} (h : okm R S) : R 102 40 = some 128 := omR h 25 rfl
theorem R_102_41 {R : MR} {S : MS} (h : okm R S) : R 102 41 = some 129 := omR h 26 rfl
theorem R_102_42 {R : MR} {S : MS} (h : okm R S) : R 102 42 = some 130 := omR h 27 rfl
theorem R_102_43 {R : MR} {S : MS} (h : okm R S) : R 102 43 = some 131 := omR h 28 rfl
theorem R_102_44 {R : MR} {S : MS} (h : okm R S) : R 102 44 = some 132 := omR h 29 rfl
theorem R_102_45 {R : MR} {S : MS} (h : okm R S) : R 102 45 = some 133 := omR h 30 rfl
theorem R_102_46 {R : MR} {S : MS} (h : okm R S) : R 102 46 = some 134 := omR h 31 rfl
theorem R_102_47 {R : MR} {S : MS} (h : okm R S) : R 102 47 = some 135 := omR h 32 rfl
theorem R_102_48 {R : MR} {S : MS} (h : okm R S) : R 102 48 = some 136 := omR h 33 rfl
theorem R_102_66 {R : MR} {S : MS} (h : okm R S) : R 102 66 = some 137 := omR h 34 rfl
theorem R_102_67 {R : MR} {S : MS} (h : okm R S) : R 102 67 = some 138 := omR h 35 rfl
theorem R_102_70 {R : MR} {S : MS} (h : okm R S) : R 102 70 = some 139 := omR h 36 rfl
theorem R_102_73 {R : MR} {S : MS} (h : okm R S) : R 102 73 = some 140 := omR h 37 rfl
theorem R_102_74 {R : MR} {S : MS} (h : okm R S) : R 102 74 = some 141 := omR h 38 rfl
theorem R_102_75 {R : MR} {S : MS} (h : okm R S) : R 102 75 = some 142 := omR h 39 rfl
theorem R_102_76 {R : MR} {S : MS} (h : okm R S) : R 102 76 = some 143 := omR h 40 rfl
theorem R_102_77 {R : MR} {S : MS} (h : okm R S) : R 102 77 = some 144 := omR h 41 rfl
theorem R_102_78 {R : MR} {S : MS} (h : okm R S) : R 102 78 = some 145 := omR h 42 rfl
theorem R_102_79 {R : MR} {S : MS} (h : okm R S) : R 102 79 = some 146 := omR h 43 rfl
theorem R_102_81 {R : MR} {S : MS} (h : okm R S) : R 102 81 = some 147 := omR h 44 rfl
theorem R_102_82 {R : MR} {S : MS} (h : okm R S) : R 102 82 = some 148 := omR h 45 rfl
theorem R_102_83 {R : MR} {S : MS} (h : okm R S) : R 102 83 = some 149 := omR h 46 rfl
theorem R_102_84 {R : MR} {S : MS} (h : okm R S) : R 102 84 = some 150 := omR h 47 rfl
theorem R_102_86 {R : MR} {S : MS} (h : okm R S) : R 102 86 = some 151 := omR h 48 rfl
theorem R_102_87 {R : MR} {S : MS} (h : okm R S) : R 102 87 = some 152 := omR h 49 rfl
theorem R_102_88 {R : MR} {S : MS} (h : okm R S) : R 102 88 = some 153 := omR h 50 rfl
theorem R_102_89 {R : MR} {S : MS} (h : okm R S) : R 102 89 = some 154 := omR h 51 rfl
theorem R_102_90 {R : MR} {S : MS} (h : okm R S) : R 102 90 = some 155 := omR h 52 rfl
theorem R_102_93 {R : MR} {S : MS} (h : okm R S) : R 102 93 = some 156 := omR h 53 rfl
theorem R_102_94 {R : MR} {S : MS} (h : okm R S) : R 102 94 = some 157 := omR h 54 rfl
theorem R_0_0 {R : MR} {S : MS} (h : okr R S) : R 0 0 = some 1 := okR h 0 rfl
theorem R_0_3 {R : MR} {S : MS} (h : okr R S) : R 0 3 = some 20 := okR h 1 rfl
theorem R_0_4 {R : MR} {S : MS} (h : okr R S) : R 0 4 = some 27 := okR h 2 rfl
theorem R_0_5 {R : MR} {S : MS} (h : okr R S) : R 0 5 = some 47 := okR h 3 rfl
theorem R_0_6 {R : MR} {S : MS} (h : okr R S) : R 0 6 = some 59 := okR h 4 rfl
theorem R_0_7 {R : MR} {S : MS} (h : okr R S) : R 0 7 = some 61 := okR h 5 rfl
theorem R_0_8 {R : MR} {S : MS} (h : okr R S) : R 0 8 = some 62 := okR h 6 rfl
theorem R_0_9 {R : MR} {S : MS} (h : okr R S) : R 0 9 = some 63 := okR h 7 rfl
theorem R_0_10 {R : MR} {S : MS} (h : okr R S) : R 0 10 = some 66 := okR h 8 rfl
theorem R_0_11 {R : MR} {S : MS} (h : okr R S) : R 0 11 = some 83 := okR h 9 rfl
theorem R_0_13 {R : MR} {S : MS} (h : okr R S) : R 0 13 = some 89 := okR h 10 rfl
theorem R_2_5 {R : MR} {S : MS} (h : okr R S) : R 2 5 = some 3 := okR h 11 rfl
theorem R_2_6 {R : MR} {S : MS} (h : okr R S) : R 2 6 = some 4 := okR h 12 rfl
theorem R_2_7 {R : MR} {S : MS} (h : okr R S) : R 2 7 = some 5 := okR h 13 rfl
theorem R_2_8 {R : MR} {S : MS} (h : okr R S) : R 2 8 = some 6 := okR h 14 rfl
theorem R_2_9 {R : MR} {S : MS} (h : okr R S) : R 2 9 = some 7 := okR h 15 rfl
theorem R_2_10 {R : MR} {S : MS} (h : okr R S) : R 2 10 = some 8 := okR h 16 rfl
theorem R_2_12 {R : MR} {S : MS} (h : okr R S) : R 2 12 = some 9 := okR h 17 rfl
theorem R_2_13 {R : MR} {S : MS} (h : okr R S) : R 2 13 = some 10 := okR h 18 rfl
theorem R_2_14 {R : MR} {S : MS} (h : okr R S) : R 2 14 = some 11 := okR h 19 rfl
theorem R_2_15 {R : MR} {S : MS} (h : okr R S) : R 2 15 = some 12 := okR h 20 rfl
theorem R_2_16 {R : MR} {S : MS} (h : okr R S) : R 2 16 = some 13 := okR h 21 rfl
theorem R_2_17 {R : MR} {S : MS} (h : okr R S) : R 2 17 = some 14 := okR h 22 rfl
theorem R_2_19 {R : MR} {S : MS} (h : okr R S) : R 2 19 = some 15 := okR h 23 rfl
theorem R_15_0 {R : MR} {S : MS} (h : okr R S) : R 15 0 = some 16 := okR h 24 rfl
theorem R_15_1 {R : MR} {S : MS} (h : okr R S) : R 15 1 = some 17 := okR h 25 rfl
theorem R_15_2 {R : MR} {S : MS} (h : okr R S) : R 15 2 = some 18 := okR h 26 rfl
theorem R_15_3 {R : MR} {S : MS} (h : okr R S) : R 15 3 = some 19 := okR h 27 rfl
theorem R_20_0 {R : MR} {S : MS} (h : okr R S) : R 20 0 = some 21 := okR h 28 rfl
theorem R_20_1 {R : MR} {S : MS} (h : okr R S) : R 20 1 = some 24 := okR h 29 rfl
theorem R_20_2 {R : MR} {S : MS} (h : okr R S) : R 20 2 = some 25 := okR h 30 rfl
theorem R_20_3 {R : MR} {S : MS} (h : okr R S) : R 20 3 = some 26 := okR h 31 rfl
theorem R_21_0 {R : MR} {S : MS} (h : okr R S) : R 21 0 = some 22 := okR h 32 rfl
theorem R_27_1 {R : MR} {S : MS} (h : okr R S) : R 27 1 = some 46 := okR h 33 rfl
theorem R_28_5 {R : MR} {S : MS} (h : okr R S) : R 28 5 = some 29 := okR h 34 rfl
theorem R_28_6 {R : MR} {S : MS} (h : okr R S) : R 28 6 = some 30 := okR h 35 rfl
theorem R_28_7 {R : MR} {S : MS} (h : okr R S) : R 28 7 = some 31 := okR h 36 rfl
theorem R_28_8 {R : MR} {S : MS} (h : okr R S) : R 28 8 = some 32 := okR h 37 rfl
theorem R_28_9 {R : MR} {S : MS} (h : okr R S) : R 28 9 = some 33 := okR h 38 rfl
theorem R_28_10 {R : MR} {S : MS} (h : okr R S) : R 28 10 = some 34 := okR h 39 rfl
theorem R_28_12 {R : MR} {S : MS} (h : okr R S) : R 28 12 = some 35 := okR h 40 rfl
theorem R_28_13 {R : MR} {S : MS} (h : okr R S) : R 28 13 = some 36 := okR h 41 rfl
theorem R_28_14 {R : MR} {S : MS} (h : okr R S) : R 28 14 = some 37 := okR h 42 rfl
theorem R_28_15 {R : MR} {S : MS} (h : okr R S) : R 28 15 = some 38 := okR h 43 rfl
theorem R_28_16 {R : MR} {S : MS} (h : okr R S) : R 28 16 = some 39 := okR h 44 rfl
theorem R_28_17 {R : MR} {S : MS} (h : okr R S) : R 28 17 = some 40 := okR h 45 rfl
theorem R_28_19 {R : MR} {S : MS} (h : okr R S) : R 28 19 = some 41 := okR h 46 rfl
theorem R_41_0 {R : MR} {S : MS} (h : okr R S) : R 41 0 = some 42 := okR h 47 rfl
theorem R_41_1 {R : MR} {S : MS} (h : okr R S) : R 41 1 = some 43 := okR h 48 rfl
theorem R_41_2 {R : MR} {S : MS} (h : okr R S) : R 41 2 = some 44 := okR h 49 rfl
theorem R_41_3 {R : MR} {S : MS} (h : okr R S) : R 41 3 = some 45 := okR h 50 rfl
theorem R_47_0 {R : MR} {S : MS} (h : okr R S) : R 47 0 = some 48 := okR h 51 rfl
theorem R_47_1 {R : MR} {S : MS} (h : okr R S) : R 47 1 = some 49 := okR h 52 rfl
theorem R_47_2 {R : MR} {S : MS} (h : okr R S) : R 47 2 = some 50 := okR h 53 rfl
theorem R_47_3 {R : MR} {S : MS} (h : okr R S) : R 47 3 = some 51 := okR h 54 rfl
theorem R_47_4 {R : MR} {S : MS} (h : okr R S) : R 47 4 = some 52 := okR h 55 rfl
theorem R_47_5 {R : MR} {S : MS} (h : okr R S) : R 47 5 = some 53 := okR h 56 rfl
theorem R_47_6 {R : MR} {S : MS} (h : okr R S) : R 47 6 = some 54 := okR h 57 rfl
theorem R_47_7 {R : MR} {S : MS} (h : okr R S) : R 47 7 = some 55 := okR h 58 rfl
theorem R_47_8 {R : MR} {S : MS} (h : okr R S) : R 47 8 = some 56 := okR h 59 rfl
theorem R_47_9 {R : MR} {S : MS} (h : okr R S) : R 47 9 = some 57 := okR h 60 rfl
theorem R_47_10 {R : MR} {S : MS} (h : okr R S) : R 47 10 = some 58 := okR h 61 rfl
theorem R_59_0 {R : MR} {S : MS} (h : okr R S) : R 59 0 = some 60 := okR h 62 rfl
theorem R_63_0 {R : MR} {S : MS} (h : okr R S) : R 63 0 = some 27 := okR h 63 rfl
theorem R_63_1 {R : MR} {S : MS} (h : okr R S) : R 63 1 = some 64 := okR h 64 rfl
theorem R_63_5 {R : MR} {S : MS} (h : okr R S) : R 63 5 = some 65 := okR h 65 rfl
theorem R_66_0 {R : MR} {S : MS} (h : okr R S) : R 66 0 = some 27 := okR h 66 rfl
theorem R_66_1 {R : MR} {S : MS} (h : okr R S) : R 66 1 = some 67 := okR h 67 rfl
theorem R_66_2 {R : MR} {S : MS} (h : okr R S) : R 66 2 = some 79 := okR h 68 rfl
theorem R_66_3 {R : MR} {S : MS} (h : okr R S) : R 66 3 = some 80 := okR h 69 rfl
theorem R_66_4 {R : MR} {S : MS} (h : okr R S) : R 66 4 = some 81 := okR h 70 rfl
theorem R_66_5 {R : MR} {S : MS} (h : okr R S) : R 66 5 = some 82 := okR h 71 rfl
theorem R_67_0 {R : MR} {S : MS} (h : okr R S) : R 67 0 = some 68 := okR h 72 rfl
theorem R_67_1 {R : MR} {S : MS} (h : okr R S) : R 67 1 = some 69 := okR h 73 rfl
theorem R_67_2 {R : MR} {S : MS} (h : okr R S) : R 67 2 = some 70 := okR h 74 rfl
theorem R_67_3 {R : MR} {S : MS} (h : okr R S) : R 67 3 = some 71 := okR h 75 rfl
theorem R_67_4 {R : MR} {S : MS} (h : okr R S) : R 67 4 = some 72 := okR h 76 rfl
theorem R_67_5 {R : MR} {S : MS} (h : okr R S) : R 67 5 = some 73 := okR h 77 rfl
theorem R_67_6 {R : MR} {S : MS} (h : okr R S) : R 67 6 = some 74 := okR h 78 rfl
theorem R_67_7 {R : MR} {S : MS} (h : okr R S) : R 67 7 = some 75 := okR h 79 rfl
theorem R_67_8 {R : MR} {S : MS} (h : okr R S) : R 67 8 = some 76 := okR h 80 rfl
theorem R_67_9 {R : MR} {S : MS} (h : okr R S) : R 67 9 = some 77 := okR h 81 rfl
theorem R_67_10 {R : MR} {S : MS} (h : okr R S) : R 67 10 = some 78 := okR h 82 rfl
theorem R_83_0 {R : MR} {S : MS} (h : okr R S) : R 83 0 = some 66 := okR h 83 rfl
theorem R_83_1 {R : MR} {S : MS} (h : okr R S) : R 83 1 = some 84 := okR h 84 rfl
theorem R_83_2 {R : MR} {S : MS} (h : okr R S) : R 83 2 = some 85 := okR h 85 rfl
theorem R_83_3 {R : MR} {S : MS} (h : okr R S) : R 83 3 = some 86 := okR h 86 rfl
theorem R_83_4 {R : MR} {S : MS} (h : okr R S) : R 83 4 = some 87 := okR h 87 rfl
theorem R_83_5 {R : MR} {S : MS} (h : okr R S) : R 83 5 = some 88 := okR h 88 rfl
theorem tS_0 {R : MR} {S : MS} {t : Nat} (h : okr R S) (ht : isT t) : S[t]? = some (8, 20) := by
  rcases ht with rfl | rfl
  · exact S_2 h
  · exact S_28 h
theorem tS_1 {R : MR} {S : MS} {t : Nat} (h : okr R S) (ht : isT t) : S[t + 1]? = some (13, 10) := by
  rcases ht with rfl | rfl
  · exact S_3 h
  · exact S_29 h
theorem tS_2 {R : MR} {S : MS} {t : Nat} (h : okr R S) (ht : isT t) : S[t + 2]? = some (13, 10) := by
  rcases ht with rfl | rfl
  · exact S_4 h
  · exact S_30 h
theorem tS_3 {R : MR} {S : MS} {t : Nat} (h : okr R S) (ht : isT t) : S[t + 3]? = some (13, 10) := by
  rcases ht with rfl | rfl
  · exact S_5 h
  · exact S_31 h
theorem tS_4 {R : MR} {S : MS} {t : Nat} (h : okr R S) (ht : isT t) : S[t + 4]? = some (13, 10) := by
  rcases ht with rfl | rfl
  · exact S_6 h
  · exact S_32 h
theorem tS_5 {R : MR} {S : MS} {t : Nat} (h : okr R S) (ht : isT t) : S[t + 5]? = some (13, 10) := by
  rcases ht with rfl | rfl
  · exact S_7 h
  · exact S_33 h
theorem tS_6 {R : MR} {S : MS} {t : Nat} (h : okr R S) (ht : isT t) : S[t + 6]? = some (13, 10) := by
  rcases ht with rfl | rfl
  · exact S_8 h
  · exact S_34 h
theorem tS_7 {R : MR} {S : MS} {t : Nat} (h : okr R S) (ht : isT t) : S[t + 7]? = some (13, 4) := by
  rcases ht with rfl | rfl
  · exact S_9 h
  · exact S_35 h
theorem tS_8 {R : MR} {S : MS} {t : Nat} (h : okr R S) (ht : isT t) : S[t + 8]? = some (13, 4) := by
  rcases ht with rfl | rfl
  · exact S_10 h
  · exact S_36 h
theorem tS_9 {R : MR} {S : MS} {t : Nat} (h : okr R S) (ht : isT t) : S[t + 9]? = some (13, 4) := by
  rcases ht with rfl | rfl
  · exact S_11 h
  · exact S_37 h
theorem tS_10 {R : MR} {S : MS} {t : Nat} (h : okr R S) (ht : isT t) : S[t + 10]? = some (13, 4) := by
  rcases ht with rfl | rfl
  · exact S_12 h
  · exact S_38 h
theorem tS_11 {R : MR} {S : MS} {t : Nat} (h : okr R S) (ht : isT t) : S[t + 11]? = some (13, 4) := by
  rcases ht with rfl | rfl
  · exact S_13 h
  · exact S_39 h
theorem tS_12 {R : MR} {S : MS} {t : Nat} (h : okr R S) (ht : isT t) : S[t + 12]? = some (13, 4) := by
  rcases ht with rfl | rfl
  · exact S_14 h
  · exact S_40 h
theorem tS_13 {R : MR} {S : MS} {t : Nat} (h : okr R S) (ht : isT t) : S[t + 13]? = some (0, 6) := by
  rcases ht with rfl | rfl
  · exact S_15 h
  · exact S_41 h
theorem tS_14 {R : MR} {S : MS} {t : Nat} (h : okr R S) (ht : isT t) : S[t + 14]? = some (13, 640) := by
  rcases ht with rfl | rfl
  · exact S_16 h
  · exact S_42 h
theorem tS_15 {R : MR} {S : MS} {t : Nat} (h : okr R S) (ht : isT t) : S[t + 15]? = some (13, 11) := by
  rcases ht with rfl | rfl
  · exact S_17 h
  · exact S_43 h
theorem tS_16 {R : MR} {S : MS} {t : Nat} (h : okr R S) (ht : isT t) : S[t + 16]? = some (13, 11) := by
  rcases ht with rfl | rfl
  · exact S_18 h
  · exact S_44 h
theorem tS_17 {R : MR} {S : MS} {t : Nat} (h : okr R S) (ht : isT t) : S[t + 17]? = some (13, 32) := by
  rcases ht with rfl | rfl
  · exact S_19 h
  · exact S_45 h
theorem tR_0_5 {R : MR} {S : MS} {t : Nat} (h : okr R S) (ht : isT t) : R t 5 = some (t + 1) := by
  rcases ht with rfl | rfl
  · exact R_2_5 h
  · exact R_28_5 h
theorem tR_0_6 {R : MR} {S : MS} {t : Nat} (h : okr R S) (ht : isT t) : R t 6 = some (t + 2) := by
  rcases ht with rfl | rfl
  · exact R_2_6 h
  · exact R_28_6 h
theorem tR_0_7 {R : MR} {S : MS} {t : Nat} (h : okr R S) (ht : isT t) : R t 7 = some (t + 3) := by
  rcases ht with rfl | rfl
  · exact R_2_7 h
  · exact R_28_7 h
theorem tR_0_8 {R : MR} {S : MS} {t : Nat} (h : okr R S) (ht : isT t) : R t 8 = some (t + 4) := by
  rcases ht with rfl | rfl
  · exact R_2_8 h
  · exact R_28_8 h
theorem tR_0_9 {R : MR} {S : MS} {t : Nat} (h : okr R S) (ht : isT t) : R t 9 = some (t + 5) := by
  rcases ht with rfl | rfl
  · exact R_2_9 h
  · exact R_28_9 h
theorem tR_0_10 {R : MR} {S : MS} {t : Nat} (h : okr R S) (ht : isT t) : R t 10 = some (t + 6) := by
  rcases ht with rfl | rfl
  · exact R_2_10 h
  · exact R_28_10 h
theorem tR_0_12 {R : MR} {S : MS} {t : Nat} (h : okr R S) (ht : isT t) : R t 12 = some (t + 7) := by
  rcases ht with rfl | rfl
  · exact R_2_12 h
  · exact R_28_12 h
theorem tR_0_13 {R : MR} {S : MS} {t : Nat} (h : okr R S) (ht : isT t) : R t 13 = some (t + 8) := by
  rcases ht with rfl | rfl
  · exact R_2_13 h
  · exact R_28_13 h
theorem tR_0_14 {R : MR} {S : MS} {t : Nat} (h : okr R S) (ht : isT t) : R t 14 = some (t + 9) := by
  rcases ht with rfl | rfl
  · exact R_2_14 h
  · exact R_28_14 h
theorem tR_0_15 {R : MR} {S : MS} {t : Nat} (h : okr R S) (ht : isT t) : R t 15 = some (t + 10) := by
  rcases ht with rfl | rfl
  · exact R_2_15 h
  · exact R_28_15 h
theorem tR_0_16 {R : MR} {S : MS} {t : Nat} (h : okr R S) (ht : isT t) : R t 16 = some (t + 11) := by
  rcases ht with rfl | rfl
  · exact R_2_16 h
  · exact R_28_16 h
theorem tR_0_17 {R : MR} {S : MS} {t : Nat} (h : okr R S) (ht : isT t) : R t 17 = some (t + 12) := by
  rcases ht with rfl | rfl
  · exact R_2_17 h
  · exact R_28_17 h
theorem tR_0_19 {R : MR} {S : MS} {t : Nat} (h : okr R S) (ht : isT t) : R t 19 = some (t + 13) := by
  rcases ht with rfl | rfl
  · exact R_2_19 h
  · exact R_28_19 h
theorem tR_13_0 {R : MR} {S : MS} {t : Nat} (h : okr R S) (ht : isT t) : R (t + 13) 0 = some (t + 14) := by
  rcases ht with rfl | rfl
  · exact R_15_0 h
  · exact R_41_0 h
theorem tR_13_1 {R : MR} {S : MS} {t : Nat} (h : okr R S) (ht : isT t) : R (t + 13) 1 = some (t + 15) := by
  rcases ht with rfl | rfl
  · exact R_15_1 h
  · exact R_41_1 h
theorem tR_13_2 {R : MR} {S : MS} {t : Nat} (h : okr R S) (ht : isT t) : R (t + 13) 2 = some (t + 16) := by
  rcases ht with rfl | rfl
  · exact R_15_2 h
  · exact R_41_2 h
theorem tR_13_3 {R : MR} {S : MS} {t : Nat} (h : okr R S) (ht : isT t) : R (t + 13) 3 = some (t + 17) := by
  rcases ht with rfl | rfl
  · exact R_15_3 h
  · exact R_41_3 h
theorem qS_0 {R : MR} {S : MS} {q : Nat} (h : isSt R S q) : S[q]? = some (7, 12) := h.2.1
theorem qS_1 {R : MR} {S : MS} {q : Nat} (h : isSt R S q) : S[q + 1]? = some (13, 10) := h.2.2.1 0 (by decide)
theorem qS_2 {R : MR} {S : MS} {q : Nat} (h : isSt R S q) : S[q + 2]? = some (13, 10) := h.2.2.1 1 (by decide)
theorem qS_3 {R : MR} {S : MS} {q : Nat} (h : isSt R S q) : S[q + 3]? = some (13, 10) := h.2.2.1 2 (by decide)
theorem qS_4 {R : MR} {S : MS} {q : Nat} (h : isSt R S q) : S[q + 4]? = some (13, 10) := h.2.2.1 3 (by decide)
theorem qS_5 {R : MR} {S : MS} {q : Nat} (h : isSt R S q) : S[q + 5]? = some (13, 10) := h.2.2.1 4 (by decide)
theorem qS_6 {R : MR} {S : MS} {q : Nat} (h : isSt R S q) : S[q + 6]? = some (13, 4) := h.2.2.2.1 0 (by decide)
theorem qS_7 {R : MR} {S : MS} {q : Nat} (h : isSt R S q) : S[q + 7]? = some (13, 4) := h.2.2.2.1 1 (by decide)
theorem qS_8 {R : MR} {S : MS} {q : Nat} (h : isSt R S q) : S[q + 8]? = some (13, 4) := h.2.2.2.1 2 (by decide)
theorem qS_9 {R : MR} {S : MS} {q : Nat} (h : isSt R S q) : S[q + 9]? = some (13, 4) := h.2.2.2.1 3 (by decide)
theorem qS_10 {R : MR} {S : MS} {q : Nat} (h : isSt R S q) : S[q + 10]? = some (13, 4) := h.2.2.2.1 4 (by decide)
theorem qS_11 {R : MR} {S : MS} {q : Nat} (h : isSt R S q) : S[q + 11]? = some (13, 60) := h.2.2.2.2
theorem qR_0 {R : MR} {S : MS} {q : Nat} (h : isSt R S q) : R q 0 = some (q + 1) := h.1 0 (by decide)
theorem qR_1 {R : MR} {S : MS} {q : Nat} (h : isSt R S q) : R q 1 = some (q + 2) := h.1 1 (by decide)
theorem qR_2 {R : MR} {S : MS} {q : Nat} (h : isSt R S q) : R q 2 = some (q + 3) := h.1 2 (by decide)
theorem qR_3 {R : MR} {S : MS} {q : Nat} (h : isSt R S q) : R q 3 = some (q + 4) := h.1 3 (by decide)
theorem qR_4 {R : MR} {S : MS} {q : Nat} (h : isSt R S q) : R q 4 = some (q + 5) := h.1 4 (by decide)
theorem qR_5 {R : MR} {S : MS} {q : Nat} (h : isSt R S q) : R q 5 = some (q + 6) := h.1 5 (by decide)
theorem qR_6 {R : MR} {S : MS} {q : Nat} (h : isSt R S q) : R q 6 = some (q + 7) := h.1 6 (by decide)
theorem qR_7 {R : MR} {S : MS} {q : Nat} (h : isSt R S q) : R q 7 = some (q + 8) := h.1 7 (by decide)
theorem qR_8 {R : MR} {S : MS} {q : Nat} (h : isSt R S q) : R q 8 = some (q + 9) := h.1 8 (by decide)
theorem qR_9 {R : MR} {S : MS} {q : Nat} (h : isSt R S q) : R q 9 = some (q + 10) := h.1 9 (by decide)
theorem qR_10 {R : MR} {S : MS} {q : Nat} (h : isSt R S q) : R q 10 = some (q + 11) := h.1 10 (by decide)
theorem st_47 {R : MR} {S : MS} (h : okr R S) : isSt R S 47 := by
  refine ⟨fun j hj => ?_, S_47 h, fun j hj => ?_, fun j hj => ?_, S_58 h⟩
  · match j, hj with
    | 0, _ => exact R_47_0 h
    | 1, _ => exact R_47_1 h
    | 2, _ => exact R_47_2 h
    | 3, _ => exact R_47_3 h
    | 4, _ => exact R_47_4 h
    | 5, _ => exact R_47_5 h
    | 6, _ => exact R_47_6 h
    | 7, _ => exact R_47_7 h
    | 8, _ => exact R_47_8 h
    | 9, _ => exact R_47_9 h
    | 10, _ => exact R_47_10 h
  · match j, hj with
    | 0, _ => exact S_48 h
    | 1, _ => exact S_49 h
    | 2, _ => exact S_50 h
    | 3, _ => exact S_51 h
    | 4, _ => exact S_52 h
  · match j, hj with
    | 0, _ => exact S_53 h
    | 1, _ => exact S_54 h
    | 2, _ => exact S_55 h
    | 3, _ => exact S_56 h
    | 4, _ => exact S_57 h
theorem st_67 {R : MR} {S : MS} (h : okr R S) : isSt R S 67 := by
  refine ⟨fun j hj => ?_, S_67 h, fun j hj => ?_, fun j hj => ?_, S_78 h⟩
  · match j, hj with
    | 0, _ => exact R_67_0 h
    | 1, _ => exact R_67_1 h
    | 2, _ => exact R_67_2 h
    | 3, _ => exact R_67_3 h
    | 4, _ => exact R_67_4 h
    | 5, _ => exact R_67_5 h
    | 6, _ => exact R_67_6 h
    | 7, _ => exact R_67_7 h
    | 8, _ => exact R_67_8 h
    | 9, _ => exact R_67_9 h
    | 10, _ => exact R_67_10 h
  · match j, hj with
    | 0, _ => exact S_68 h
    | 1, _ => exact S_69 h
    | 2, _ => exact S_70 h
    | 3, _ => exact S_71 h
    | 4, _ => exact S_72 h
  · match j, hj with
    | 0, _ => exact S_73 h
    | 1, _ => exact S_74 h
    | 2, _ => exact S_75 h
    | 3, _ => exact S_76 h
    | 4, _ => exact S_77 h
