/-! THE LAYOUT of the cells (in the order in which the law makes them), WORDS of the tables by their places, small words of the functions: written by wip/whole/emit.py -/
abbrev z_in (i : Int32) (n : Nat) : Prop := ¬ (i < 0 ∨ n ≤ i.toNatClampNeg)
/-- a loop's fuel -/
def z_N : Nat := 5000
def z_st {α : Type} (m : z_M) (f : z_M → Option α) : Option α := f m
def z_lt {α β : Type} (a : β) (f : β → Option α) : Option α := f a
def z_b1 {α : Type} (x : Option z_M) (f : z_M → Option α) : Option α := match x with
  | some m => f m
  | none => none
def z_b2 {α β : Type} (x : Option (β × z_M)) (f : β → z_M → Option α) : Option α := match x with
  | some q => f q.1 q.2
  | none => none
theorem z_st_some {α : Type} {m : z_M} {f : z_M → Option α} {r : α} (h : z_st m f = some r) : ∃ m', m' = m ∧ f m' = some r := ⟨m, rfl, h⟩
theorem z_lt_some {α β : Type} {a : β} {f : β → Option α} {r : α} (h : z_lt a f = some r) : ∃ b, b = a ∧ f b = some r := ⟨a, rfl, h⟩
theorem z_b1_some {α : Type} {x : Option z_M} {f : z_M → Option α} {r : α} (h : z_b1 x f = some r) : ∃ m, x = some m ∧ f m = some r := by
  cases x with
  | none => cases h
  | some m => exact ⟨m, rfl, h⟩
theorem z_b2_some {α β : Type} {x : Option (β × z_M)} {f : β → z_M → Option α} {r : α} (h : z_b2 x f = some r) : ∃ b m, x = some (b, m) ∧ f b m = some r := by
  cases x with
  | none => cases h
  | some q => exact ⟨q.1, q.2, rfl, h⟩
theorem z_ifs {α : Type} {c : Prop} [Decidable c] {a : Option α} {r : α} (h : (if c then a else none) = some r) : c ∧ a = some r := by
  by_cases hc : c
  · rw [if_pos hc] at h
    exact ⟨hc, h⟩
  · rw [if_neg hc] at h
    cases h
theorem z_nb {x : Int32} (h : x = 0 ∨ x = 1) : narrow .boolean (.int x) = .int x := by
  rcases h with rfl | rfl <;> rfl
def z_SH : List z_H := [.inr (4, [2, 2, 2, 2, 2, 2, 2, 2, 2, 2]), .inl (2, 4), .inr (1, [2, 0, 0, 0, 0, 0, 0, 0, 0]), .inl (0, 240), .inr (3, [0, 0, 0, 2, 2, 2, 2, 2, 2, 2, 2, 2, 2]), .inl (0, 6), .inl (0, 6), .inl (0, 14), .inl (0, 14), .inl (0, 14), .inl (0, 14), .inl (0, 14), .inl (0, 14), .inl (0, 5), .inl (0, 3), .inr (3, [0, 0, 0, 2, 2, 2, 2, 2, 2, 2, 2, 2, 2]), .inl (0, 6), .inl (0, 6), .inl (0, 14), .inl (0, 14), .inl (0, 14), .inl (0, 14), .inl (0, 14), .inl (0, 14), .inl (0, 5), .inl (0, 3), .inl (3, 2), .inl (1, 2), .inr (2, [2, 0, 0, 2, 2, 2, 2, 2, 2, 2, 2, 2, 2, 2, 2, 2]), .inl (0, 14), .inl (0, 14), .inl (0, 14), .inl (0, 14), .inl (0, 14), .inl (0, 14), .inl (0, 5), .inl (0, 5), .inl (0, 5), .inl (0, 5), .inl (4, 6), .inl (0, 14), .inl (0, 14), .inl (0, 14), .inl (0, 14), .inl (0, 14), .inl (0, 14), .inl (0, 6), .inl (0, 3), .inl (0, 3), .inl (0, 14), .inl (0, 6), .inr (0, [2, 2, 2, 2, 0, 0, 0, 0, 0, 0, 0, 0, 0]), .inl (0, 8), .inl (0, 8), .inl (0, 8), .inl (0, 8), .inr (0, [2, 2, 2, 2, 0, 0, 0, 0, 0, 0, 0, 0, 0]), .inl (0, 8), .inl (0, 8), .inl (0, 8), .inl (0, 8), .inr (0, [2, 2, 2, 2, 0, 0, 0, 0, 0, 0, 0, 0, 0]), .inl (0, 8), .inl (0, 8), .inl (0, 8), .inl (0, 8), .inr (0, [2, 2, 2, 2, 0, 0, 0, 0, 0, 0, 0, 0, 0]), .inl (0, 8), .inl (0, 8), .inl (0, 8), .inl (0, 8), .inr (0, [2, 2, 2, 2, 0, 0, 0, 0, 0, 0, 0, 0, 0]), .inl (0, 8), .inl (0, 8), .inl (0, 8), .inl (0, 8), .inr (3, [0, 0, 0, 2, 2, 2, 2, 2, 2, 2, 2, 2, 2]), .inl (0, 6), .inl (0, 6), .inl (0, 14), .inl (0, 14), .inl (0, 14), .inl (0, 14), .inl (0, 14), .inl (0, 14), .inl (0, 5), .inl (0, 3), .inr (3, [0, 0, 0, 2, 2, 2, 2, 2, 2, 2, 2, 2, 2]), .inl (0, 6), .inl (0, 6), .inl (0, 14), .inl (0, 14), .inl (0, 14), .inl (0, 14), .inl (0, 14), .inl (0, 14), .inl (0, 5), .inl (0, 3), .inr (5, [2, 2, 2, 2, 2, 2, 2, 2, 2, 2, 2, 2, 2, 0, 0, 0, 1, 0, 0, 0, 0, 0, 2, 2, 0, 2, 2, 0, 2, 2, 2, 2, 2, 2, 2, 2, 2, 2, 2, 2, 2, 2, 2, 2, 2, 2, 2, 2]), .inl (0, 32), .inl (0, 32), .inl (0, 32), .inl (1, 32), .inl (1, 256), .inl (0, 20), .inl (0, 8), .inl (0, 8), .inl (0, 8), .inl (1, 8), .inl (1, 64), .inl (0, 5), .inl (0, 240), .inl (1, 256), .inl (0, 32), .inl (0, 7), .inl (0, 7), .inl (0, 15), .inl (0, 15), .inl (0, 15), .inl (0, 15), .inl (1, 15), .inl (0, 15), .inl (0, 15), .inl (1, 15), .inl (0, 5), .inl (0, 3), .inl (0, 15), .inl (0, 5), .inl (0, 5), .inl (0, 3), .inl (1, 15), .inl (0, 5), .inl (0, 6), .inl (0, 15), .inl (0, 300), .inl (1, 2)]
theorem c_0 : z_SH[0]? = some (.inr (4, [2, 2, 2, 2, 2, 2, 2, 2, 2, 2])) := rfl
theorem c_1 : z_SH[1]? = some (.inl (2, 4)) := rfl
theorem c_2 : z_SH[2]? = some (.inr (1, [2, 0, 0, 0, 0, 0, 0, 0, 0])) := rfl
theorem c_3 : z_SH[3]? = some (.inl (0, 240)) := rfl
theorem c_4 : z_SH[4]? = some (.inr (3, [0, 0, 0, 2, 2, 2, 2, 2, 2, 2, 2, 2, 2])) := rfl
theorem c_5 : z_SH[5]? = some (.inl (0, 6)) := rfl
theorem c_6 : z_SH[6]? = some (.inl (0, 6)) := rfl
theorem c_7 : z_SH[7]? = some (.inl (0, 14)) := rfl
theorem c_8 : z_SH[8]? = some (.inl (0, 14)) := rfl
theorem c_9 : z_SH[9]? = some (.inl (0, 14)) := rfl
theorem c_10 : z_SH[10]? = some (.inl (0, 14)) := rfl
theorem c_11 : z_SH[11]? = some (.inl (0, 14)) := rfl
theorem c_12 : z_SH[12]? = some (.inl (0, 14)) := rfl
theorem c_13 : z_SH[13]? = some (.inl (0, 5)) := rfl
theorem c_14 : z_SH[14]? = some (.inl (0, 3)) := rfl
theorem c_15 : z_SH[15]? = some (.inr (3, [0, 0, 0, 2, 2, 2, 2, 2, 2, 2, 2, 2, 2])) := rfl
theorem c_16 : z_SH[16]? = some (.inl (0, 6)) := rfl
theorem c_17 : z_SH[17]? = some (.inl (0, 6)) := rfl
theorem c_18 : z_SH[18]? = some (.inl (0, 14)) := rfl
theorem c_19 : z_SH[19]? = some (.inl (0, 14)) := rfl
theorem c_20 : z_SH[20]? = some (.inl (0, 14)) := rfl
theorem c_21 : z_SH[21]? = some (.inl (0, 14)) := rfl
theorem c_22 : z_SH[22]? = some (.inl (0, 14)) := rfl
theorem c_23 : z_SH[23]? = some (.inl (0, 14)) := rfl
theorem c_24 : z_SH[24]? = some (.inl (0, 5)) := rfl
theorem c_25 : z_SH[25]? = some (.inl (0, 3)) := rfl
theorem c_26 : z_SH[26]? = some (.inl (3, 2)) := rfl
theorem c_27 : z_SH[27]? = some (.inl (1, 2)) := rfl
theorem c_28 : z_SH[28]? = some (.inr (2, [2, 0, 0, 2, 2, 2, 2, 2, 2, 2, 2, 2, 2, 2, 2, 2])) := rfl
theorem c_29 : z_SH[29]? = some (.inl (0, 14)) := rfl
theorem c_30 : z_SH[30]? = some (.inl (0, 14)) := rfl
theorem c_31 : z_SH[31]? = some (.inl (0, 14)) := rfl
theorem c_32 : z_SH[32]? = some (.inl (0, 14)) := rfl
theorem c_33 : z_SH[33]? = some (.inl (0, 14)) := rfl
theorem c_34 : z_SH[34]? = some (.inl (0, 14)) := rfl
theorem c_35 : z_SH[35]? = some (.inl (0, 5)) := rfl
theorem c_36 : z_SH[36]? = some (.inl (0, 5)) := rfl
theorem c_37 : z_SH[37]? = some (.inl (0, 5)) := rfl
theorem c_38 : z_SH[38]? = some (.inl (0, 5)) := rfl
theorem c_39 : z_SH[39]? = some (.inl (4, 6)) := rfl
theorem c_40 : z_SH[40]? = some (.inl (0, 14)) := rfl
theorem c_41 : z_SH[41]? = some (.inl (0, 14)) := rfl
theorem c_42 : z_SH[42]? = some (.inl (0, 14)) := rfl
theorem c_43 : z_SH[43]? = some (.inl (0, 14)) := rfl
theorem c_44 : z_SH[44]? = some (.inl (0, 14)) := rfl
theorem c_45 : z_SH[45]? = some (.inl (0, 14)) := rfl
theorem c_46 : z_SH[46]? = some (.inl (0, 6)) := rfl
theorem c_47 : z_SH[47]? = some (.inl (0, 3)) := rfl
theorem c_48 : z_SH[48]? = some (.inl (0, 3)) := rfl
theorem c_49 : z_SH[49]? = some (.inl (0, 14)) := rfl
theorem c_50 : z_SH[50]? = some (.inl (0, 6)) := rfl
theorem c_51 : z_SH[51]? = some (.inr (0, [2, 2, 2, 2, 0, 0, 0, 0, 0, 0, 0, 0, 0])) := rfl
theorem c_52 : z_SH[52]? = some (.inl (0, 8)) := rfl
theorem c_53 : z_SH[53]? = some (.inl (0, 8)) := rfl
theorem c_54 : z_SH[54]? = some (.inl (0, 8)) := rfl
theorem c_55 : z_SH[55]? = some (.inl (0, 8)) := rfl
theorem c_56 : z_SH[56]? = some (.inr (0, [2, 2, 2, 2, 0, 0, 0, 0, 0, 0, 0, 0, 0])) := rfl
theorem c_57 : z_SH[57]? = some (.inl (0, 8)) := rfl
theorem c_58 : z_SH[58]? = some (.inl (0, 8)) := rfl
theorem c_59 : z_SH[59]? = some (.inl (0, 8)) := rfl
theorem c_60 : z_SH[60]? = some (.inl (0, 8)) := rfl
theorem c_61 : z_SH[61]? = some (.inr (0, [2, 2, 2, 2, 0, 0, 0, 0, 0, 0, 0, 0, 0])) := rfl
theorem c_62 : z_SH[62]? = some (.inl (0, 8)) := rfl
theorem c_63 : z_SH[63]? = some (.inl (0, 8)) := rfl
theorem c_64 : z_SH[64]? = some (.inl (0, 8)) := rfl
theorem c_65 : z_SH[65]? = some (.inl (0, 8)) := rfl
theorem c_66 : z_SH[66]? = some (.inr (0, [2, 2, 2, 2, 0, 0, 0, 0, 0, 0, 0, 0, 0])) := rfl
theorem c_67 : z_SH[67]? = some (.inl (0, 8)) := rfl
theorem c_68 : z_SH[68]? = some (.inl (0, 8)) := rfl
theorem c_69 : z_SH[69]? = some (.inl (0, 8)) := rfl
theorem c_70 : z_SH[70]? = some (.inl (0, 8)) := rfl
theorem c_71 : z_SH[71]? = some (.inr (0, [2, 2, 2, 2, 0, 0, 0, 0, 0, 0, 0, 0, 0])) := rfl
theorem c_72 : z_SH[72]? = some (.inl (0, 8)) := rfl
theorem c_73 : z_SH[73]? = some (.inl (0, 8)) := rfl
theorem c_74 : z_SH[74]? = some (.inl (0, 8)) := rfl
theorem c_75 : z_SH[75]? = some (.inl (0, 8)) := rfl
theorem c_76 : z_SH[76]? = some (.inr (3, [0, 0, 0, 2, 2, 2, 2, 2, 2, 2, 2, 2, 2])) := rfl
theorem c_77 : z_SH[77]? = some (.inl (0, 6)) := rfl
theorem c_78 : z_SH[78]? = some (.inl (0, 6)) := rfl
theorem c_79 : z_SH[79]? = some (.inl (0, 14)) := rfl
theorem c_80 : z_SH[80]? = some (.inl (0, 14)) := rfl
theorem c_81 : z_SH[81]? = some (.inl (0, 14)) := rfl
theorem c_82 : z_SH[82]? = some (.inl (0, 14)) := rfl
theorem c_83 : z_SH[83]? = some (.inl (0, 14)) := rfl
theorem c_84 : z_SH[84]? = some (.inl (0, 14)) := rfl
theorem c_85 : z_SH[85]? = some (.inl (0, 5)) := rfl
theorem c_86 : z_SH[86]? = some (.inl (0, 3)) := rfl
theorem c_87 : z_SH[87]? = some (.inr (3, [0, 0, 0, 2, 2, 2, 2, 2, 2, 2, 2, 2, 2])) := rfl
theorem c_88 : z_SH[88]? = some (.inl (0, 6)) := rfl
theorem c_89 : z_SH[89]? = some (.inl (0, 6)) := rfl
theorem c_90 : z_SH[90]? = some (.inl (0, 14)) := rfl
theorem c_91 : z_SH[91]? = some (.inl (0, 14)) := rfl
theorem c_92 : z_SH[92]? = some (.inl (0, 14)) := rfl
theorem c_93 : z_SH[93]? = some (.inl (0, 14)) := rfl
theorem c_94 : z_SH[94]? = some (.inl (0, 14)) := rfl
theorem c_95 : z_SH[95]? = some (.inl (0, 14)) := rfl
theorem c_96 : z_SH[96]? = some (.inl (0, 5)) := rfl
theorem c_97 : z_SH[97]? = some (.inl (0, 3)) := rfl
theorem c_98 : z_SH[98]? = some (.inr (5, [2, 2, 2, 2, 2, 2, 2, 2, 2, 2, 2, 2, 2, 0, 0, 0, 1, 0, 0, 0, 0, 0, 2, 2, 0, 2, 2, 0, 2, 2, 2, 2, 2, 2, 2, 2, 2, 2, 2, 2, 2, 2, 2, 2, 2, 2, 2, 2])) := rfl
theorem c_99 : z_SH[99]? = some (.inl (0, 32)) := rfl
theorem c_100 : z_SH[100]? = some (.inl (0, 32)) := rfl
theorem c_101 : z_SH[101]? = some (.inl (0, 32)) := rfl
theorem c_102 : z_SH[102]? = some (.inl (1, 32)) := rfl
theorem c_103 : z_SH[103]? = some (.inl (1, 256)) := rfl
theorem c_104 : z_SH[104]? = some (.inl (0, 20)) := rfl
theorem c_105 : z_SH[105]? = some (.inl (0, 8)) := rfl
theorem c_106 : z_SH[106]? = some (.inl (0, 8)) := rfl
theorem c_107 : z_SH[107]? = some (.inl (0, 8)) := rfl
theorem c_108 : z_SH[108]? = some (.inl (1, 8)) := rfl
theorem c_109 : z_SH[109]? = some (.inl (1, 64)) := rfl
theorem c_110 : z_SH[110]? = some (.inl (0, 5)) := rfl
theorem c_111 : z_SH[111]? = some (.inl (0, 240)) := rfl
theorem c_112 : z_SH[112]? = some (.inl (1, 256)) := rfl
theorem c_113 : z_SH[113]? = some (.inl (0, 32)) := rfl
theorem c_114 : z_SH[114]? = some (.inl (0, 7)) := rfl
theorem c_115 : z_SH[115]? = some (.inl (0, 7)) := rfl
theorem c_116 : z_SH[116]? = some (.inl (0, 15)) := rfl
theorem c_117 : z_SH[117]? = some (.inl (0, 15)) := rfl
theorem c_118 : z_SH[118]? = some (.inl (0, 15)) := rfl
theorem c_119 : z_SH[119]? = some (.inl (0, 15)) := rfl
theorem c_120 : z_SH[120]? = some (.inl (1, 15)) := rfl
theorem c_121 : z_SH[121]? = some (.inl (0, 15)) := rfl
theorem c_122 : z_SH[122]? = some (.inl (0, 15)) := rfl
theorem c_123 : z_SH[123]? = some (.inl (1, 15)) := rfl
theorem c_124 : z_SH[124]? = some (.inl (0, 5)) := rfl
theorem c_125 : z_SH[125]? = some (.inl (0, 3)) := rfl
theorem c_126 : z_SH[126]? = some (.inl (0, 15)) := rfl
theorem c_127 : z_SH[127]? = some (.inl (0, 5)) := rfl
theorem c_128 : z_SH[128]? = some (.inl (0, 5)) := rfl
theorem c_129 : z_SH[129]? = some (.inl (0, 3)) := rfl
theorem c_130 : z_SH[130]? = some (.inl (1, 15)) := rfl
theorem c_131 : z_SH[131]? = some (.inl (0, 5)) := rfl
theorem c_132 : z_SH[132]? = some (.inl (0, 6)) := rfl
theorem c_133 : z_SH[133]? = some (.inl (0, 15)) := rfl
theorem c_134 : z_SH[134]? = some (.inl (0, 300)) := rfl
theorem c_135 : z_SH[135]? = some (.inl (1, 2)) := rfl
/-- references that never change -/
def z_RL : List (Nat × Nat × Nat) := [(0, 0, 1), (0, 1, 2), (2, 0, 3), (0, 2, 4), (4, 3, 5), (4, 4, 6), (4, 5, 7), (4, 6, 8), (4, 7, 9), (4, 8, 10), (4, 9, 11), (4, 10, 12), (4, 11, 13), (4, 12, 14), (0, 3, 15), (15, 3, 16), (15, 4, 17), (15, 5, 18), (15, 6, 19), (15, 7, 20), (15, 8, 21), (15, 9, 22), (15, 10, 23), (15, 11, 24), (15, 12, 25), (0, 4, 26), (0, 5, 27), (0, 6, 28), (28, 0, 29), (28, 3, 30), (28, 4, 31), (28, 5, 32), (28, 6, 33), (28, 7, 34), (28, 8, 35), (28, 9, 36), (28, 10, 37), (28, 11, 38), (28, 12, 39), (28, 13, 46), (28, 14, 47), (28, 15, 48), (0, 7, 49), (0, 8, 50), (51, 0, 52), (51, 1, 53), (51, 2, 54), (51, 3, 55), (56, 0, 57), (56, 1, 58), (56, 2, 59), (56, 3, 60), (61, 0, 62), (61, 1, 63), (61, 2, 64), (61, 3, 65), (66, 0, 67), (66, 1, 68), (66, 2, 69), (66, 3, 70), (71, 0, 72), (71, 1, 73), (71, 2, 74), (71, 3, 75), (76, 3, 77), (76, 4, 78), (76, 5, 79), (76, 6, 80), (76, 7, 81), (76, 8, 82), (76, 9, 83), (76, 10, 84), (76, 11, 85), (76, 12, 86), (87, 3, 88), (87, 4, 89), (87, 5, 90), (87, 6, 91), (87, 7, 92), (87, 8, 93), (87, 9, 94), (87, 10, 95), (87, 11, 96), (87, 12, 97), (98, 0, 99), (98, 1, 100), (98, 2, 101), (98, 3, 102), (98, 4, 103), (98, 5, 104), (98, 6, 105), (98, 7, 106), (98, 8, 107), (98, 9, 108), (98, 10, 109), (98, 11, 110), (98, 12, 111), (98, 22, 112), (98, 23, 113), (98, 25, 114), (98, 26, 115), (98, 28, 116), (98, 29, 117), (98, 30, 118), (98, 31, 119), (98, 32, 120), (98, 33, 121), (98, 34, 122), (98, 35, 123), (98, 36, 124), (98, 37, 125), (98, 38, 126), (98, 39, 127), (98, 40, 128), (98, 41, 129), (98, 42, 130), (98, 43, 131), (98, 44, 132), (98, 45, 133), (98, 46, 134), (98, 47, 135)]
theorem r_0_0 : (0, 0, 1) ∈ z_RL := List.mem_of_getElem? (i := 0) rfl
theorem r_0_1 : (0, 1, 2) ∈ z_RL := List.mem_of_getElem? (i := 1) rfl
theorem r_2_0 : (2, 0, 3) ∈ z_RL := List.mem_of_getElem? (i := 2) rfl
theorem r_0_2 : (0, 2, 4) ∈ z_RL := List.mem_of_getElem? (i := 3) rfl
theorem r_4_3 : (4, 3, 5) ∈ z_RL := List.mem_of_getElem? (i := 4) rfl
theorem r_4_4 : (4, 4, 6) ∈ z_RL := List.mem_of_getElem? (i := 5) rfl
theorem r_4_5 : (4, 5, 7) ∈ z_RL := List.mem_of_getElem? (i := 6) rfl
theorem r_4_6 : (4, 6, 8) ∈ z_RL := List.mem_of_getElem? (i := 7) rfl
theorem r_4_7 : (4, 7, 9) ∈ z_RL := List.mem_of_getElem? (i := 8) rfl
theorem r_4_8 : (4, 8, 10) ∈ z_RL := List.mem_of_getElem? (i := 9) rfl
theorem r_4_9 : (4, 9, 11) ∈ z_RL := List.mem_of_getElem? (i := 10) rfl
theorem r_4_10 : (4, 10, 12) ∈ z_RL := List.mem_of_getElem? (i := 11) rfl
theorem r_4_11 : (4, 11, 13) ∈ z_RL := List.mem_of_getElem? (i := 12) rfl
theorem r_4_12 : (4, 12, 14) ∈ z_RL := List.mem_of_getElem? (i := 13) rfl
theorem r_0_3 : (0, 3, 15) ∈ z_RL := List.mem_of_getElem? (i := 14) rfl
theorem r_15_3 : (15, 3, 16) ∈ z_RL := List.mem_of_getElem? (i := 15) rfl
theorem r_15_4 : (15, 4, 17) ∈ z_RL := List.mem_of_getElem? (i := 16) rfl
theorem r_15_5 : (15, 5, 18) ∈ z_RL := List.mem_of_getElem? (i := 17) rfl
theorem r_15_6 : (15, 6, 19) ∈ z_RL := List.mem_of_getElem? (i := 18) rfl
theorem r_15_7 : (15, 7, 20) ∈ z_RL := List.mem_of_getElem? (i := 19) rfl
theorem r_15_8 : (15, 8, 21) ∈ z_RL := List.mem_of_getElem? (i := 20) rfl
theorem r_15_9 : (15, 9, 22) ∈ z_RL := List.mem_of_getElem? (i := 21) rfl
theorem r_15_10 : (15, 10, 23) ∈ z_RL := List.mem_of_getElem? (i := 22) rfl
theorem r_15_11 : (15, 11, 24) ∈ z_RL := List.mem_of_getElem? (i := 23) rfl
theorem r_15_12 : (15, 12, 25) ∈ z_RL := List.mem_of_getElem? (i := 24) rfl
theorem r_0_4 : (0, 4, 26) ∈ z_RL := List.mem_of_getElem? (i := 25) rfl
theorem r_0_5 : (0, 5, 27) ∈ z_RL := List.mem_of_getElem? (i := 26) rfl
theorem r_0_6 : (0, 6, 28) ∈ z_RL := List.mem_of_getElem? (i := 27) rfl
theorem r_28_0 : (28, 0, 29) ∈ z_RL := List.mem_of_getElem? (i := 28) rfl
theorem r_28_3 : (28, 3, 30) ∈ z_RL := List.mem_of_getElem? (i := 29) rfl
theorem r_28_4 : (28, 4, 31) ∈ z_RL := List.mem_of_getElem? (i := 30) rfl
theorem r_28_5 : (28, 5, 32) ∈ z_RL := List.mem_of_getElem? (i := 31) rfl
theorem r_28_6 : (28, 6, 33) ∈ z_RL := List.mem_of_getElem? (i := 32) rfl
theorem r_28_7 : (28, 7, 34) ∈ z_RL := List.mem_of_getElem? (i := 33) rfl
theorem r_28_8 : (28, 8, 35) ∈ z_RL := List.mem_of_getElem? (i := 34) rfl
theorem r_28_9 : (28, 9, 36) ∈ z_RL := List.mem_of_getElem? (i := 35) rfl
theorem r_28_10 : (28, 10, 37) ∈ z_RL := List.mem_of_getElem? (i := 36) rfl
theorem r_28_11 : (28, 11, 38) ∈ z_RL := List.mem_of_getElem? (i := 37) rfl
theorem r_28_12 : (28, 12, 39) ∈ z_RL := List.mem_of_getElem? (i := 38) rfl
theorem r_28_13 : (28, 13, 46) ∈ z_RL := List.mem_of_getElem? (i := 39) rfl
theorem r_28_14 : (28, 14, 47) ∈ z_RL := List.mem_of_getElem? (i := 40) rfl
theorem r_28_15 : (28, 15, 48) ∈ z_RL := List.mem_of_getElem? (i := 41) rfl
theorem r_0_7 : (0, 7, 49) ∈ z_RL := List.mem_of_getElem? (i := 42) rfl
theorem r_0_8 : (0, 8, 50) ∈ z_RL := List.mem_of_getElem? (i := 43) rfl
theorem r_51_0 : (51, 0, 52) ∈ z_RL := List.mem_of_getElem? (i := 44) rfl
theorem r_51_1 : (51, 1, 53) ∈ z_RL := List.mem_of_getElem? (i := 45) rfl
theorem r_51_2 : (51, 2, 54) ∈ z_RL := List.mem_of_getElem? (i := 46) rfl
theorem r_51_3 : (51, 3, 55) ∈ z_RL := List.mem_of_getElem? (i := 47) rfl
theorem r_56_0 : (56, 0, 57) ∈ z_RL := List.mem_of_getElem? (i := 48) rfl
theorem r_56_1 : (56, 1, 58) ∈ z_RL := List.mem_of_getElem? (i := 49) rfl
theorem r_56_2 : (56, 2, 59) ∈ z_RL := List.mem_of_getElem? (i := 50) rfl
theorem r_56_3 : (56, 3, 60) ∈ z_RL := List.mem_of_getElem? (i := 51) rfl
theorem r_61_0 : (61, 0, 62) ∈ z_RL := List.mem_of_getElem? (i := 52) rfl
theorem r_61_1 : (61, 1, 63) ∈ z_RL := List.mem_of_getElem? (i := 53) rfl
theorem r_61_2 : (61, 2, 64) ∈ z_RL := List.mem_of_getElem? (i := 54) rfl
theorem r_61_3 : (61, 3, 65) ∈ z_RL := List.mem_of_getElem? (i := 55) rfl
theorem r_66_0 : (66, 0, 67) ∈ z_RL := List.mem_of_getElem? (i := 56) rfl
theorem r_66_1 : (66, 1, 68) ∈ z_RL := List.mem_of_getElem? (i := 57) rfl
theorem r_66_2 : (66, 2, 69) ∈ z_RL := List.mem_of_getElem? (i := 58) rfl
theorem r_66_3 : (66, 3, 70) ∈ z_RL := List.mem_of_getElem? (i := 59) rfl
theorem r_71_0 : (71, 0, 72) ∈ z_RL := List.mem_of_getElem? (i := 60) rfl
theorem r_71_1 : (71, 1, 73) ∈ z_RL := List.mem_of_getElem? (i := 61) rfl
theorem r_71_2 : (71, 2, 74) ∈ z_RL := List.mem_of_getElem? (i := 62) rfl
theorem r_71_3 : (71, 3, 75) ∈ z_RL := List.mem_of_getElem? (i := 63) rfl
theorem r_76_3 : (76, 3, 77) ∈ z_RL := List.mem_of_getElem? (i := 64) rfl
theorem r_76_4 : (76, 4, 78) ∈ z_RL := List.mem_of_getElem? (i := 65) rfl
theorem r_76_5 : (76, 5, 79) ∈ z_RL := List.mem_of_getElem? (i := 66) rfl
theorem r_76_6 : (76, 6, 80) ∈ z_RL := List.mem_of_getElem? (i := 67) rfl
theorem r_76_7 : (76, 7, 81) ∈ z_RL := List.mem_of_getElem? (i := 68) rfl
theorem r_76_8 : (76, 8, 82) ∈ z_RL := List.mem_of_getElem? (i := 69) rfl
theorem r_76_9 : (76, 9, 83) ∈ z_RL := List.mem_of_getElem? (i := 70) rfl
theorem r_76_10 : (76, 10, 84) ∈ z_RL := List.mem_of_getElem? (i := 71) rfl
theorem r_76_11 : (76, 11, 85) ∈ z_RL := List.mem_of_getElem? (i := 72) rfl
theorem r_76_12 : (76, 12, 86) ∈ z_RL := List.mem_of_getElem? (i := 73) rfl
theorem r_87_3 : (87, 3, 88) ∈ z_RL := List.mem_of_getElem? (i := 74) rfl
theorem r_87_4 : (87, 4, 89) ∈ z_RL := List.mem_of_getElem? (i := 75) rfl
theorem r_87_5 : (87, 5, 90) ∈ z_RL := List.mem_of_getElem? (i := 76) rfl
theorem r_87_6 : (87, 6, 91) ∈ z_RL := List.mem_of_getElem? (i := 77) rfl
theorem r_87_7 : (87, 7, 92) ∈ z_RL := List.mem_of_getElem? (i := 78) rfl
theorem r_87_8 : (87, 8, 93) ∈ z_RL := List.mem_of_getElem? (i := 79) rfl
theorem r_87_9 : (87, 9, 94) ∈ z_RL := List.mem_of_getElem? (i := 80) rfl
theorem r_87_10 : (87, 10, 95) ∈ z_RL := List.mem_of_getElem? (i := 81) rfl
theorem r_87_11 : (87, 11, 96) ∈ z_RL := List.mem_of_getElem? (i := 82) rfl
theorem r_87_12 : (87, 12, 97) ∈ z_RL := List.mem_of_getElem? (i := 83) rfl
theorem r_98_0 : (98, 0, 99) ∈ z_RL := List.mem_of_getElem? (i := 84) rfl
theorem r_98_1 : (98, 1, 100) ∈ z_RL := List.mem_of_getElem? (i := 85) rfl
theorem r_98_2 : (98, 2, 101) ∈ z_RL := List.mem_of_getElem? (i := 86) rfl
theorem r_98_3 : (98, 3, 102) ∈ z_RL := List.mem_of_getElem? (i := 87) rfl
theorem r_98_4 : (98, 4, 103) ∈ z_RL := List.mem_of_getElem? (i := 88) rfl
theorem r_98_5 : (98, 5, 104) ∈ z_RL := List.mem_of_getElem? (i := 89) rfl
theorem r_98_6 : (98, 6, 105) ∈ z_RL := List.mem_of_getElem? (i := 90) rfl
theorem r_98_7 : (98, 7, 106) ∈ z_RL := List.mem_of_getElem? (i := 91) rfl
theorem r_98_8 : (98, 8, 107) ∈ z_RL := List.mem_of_getElem? (i := 92) rfl
theorem r_98_9 : (98, 9, 108) ∈ z_RL := List.mem_of_getElem? (i := 93) rfl
theorem r_98_10 : (98, 10, 109) ∈ z_RL := List.mem_of_getElem? (i := 94) rfl
theorem r_98_11 : (98, 11, 110) ∈ z_RL := List.mem_of_getElem? (i := 95) rfl
theorem r_98_12 : (98, 12, 111) ∈ z_RL := List.mem_of_getElem? (i := 96) rfl
theorem r_98_22 : (98, 22, 112) ∈ z_RL := List.mem_of_getElem? (i := 97) rfl
theorem r_98_23 : (98, 23, 113) ∈ z_RL := List.mem_of_getElem? (i := 98) rfl
theorem r_98_25 : (98, 25, 114) ∈ z_RL := List.mem_of_getElem? (i := 99) rfl
theorem r_98_26 : (98, 26, 115) ∈ z_RL := List.mem_of_getElem? (i := 100) rfl
theorem r_98_28 : (98, 28, 116) ∈ z_RL := List.mem_of_getElem? (i := 101) rfl
theorem r_98_29 : (98, 29, 117) ∈ z_RL := List.mem_of_getElem? (i := 102) rfl
theorem r_98_30 : (98, 30, 118) ∈ z_RL := List.mem_of_getElem? (i := 103) rfl
theorem r_98_31 : (98, 31, 119) ∈ z_RL := List.mem_of_getElem? (i := 104) rfl
theorem r_98_32 : (98, 32, 120) ∈ z_RL := List.mem_of_getElem? (i := 105) rfl
theorem r_98_33 : (98, 33, 121) ∈ z_RL := List.mem_of_getElem? (i := 106) rfl
theorem r_98_34 : (98, 34, 122) ∈ z_RL := List.mem_of_getElem? (i := 107) rfl
theorem r_98_35 : (98, 35, 123) ∈ z_RL := List.mem_of_getElem? (i := 108) rfl
theorem r_98_36 : (98, 36, 124) ∈ z_RL := List.mem_of_getElem? (i := 109) rfl
theorem r_98_37 : (98, 37, 125) ∈ z_RL := List.mem_of_getElem? (i := 110) rfl
theorem r_98_38 : (98, 38, 126) ∈ z_RL := List.mem_of_getElem? (i := 111) rfl
theorem r_98_39 : (98, 39, 127) ∈ z_RL := List.mem_of_getElem? (i := 112) rfl
theorem r_98_40 : (98, 40, 128) ∈ z_RL := List.mem_of_getElem? (i := 113) rfl
theorem r_98_41 : (98, 41, 129) ∈ z_RL := List.mem_of_getElem? (i := 114) rfl
theorem r_98_42 : (98, 42, 130) ∈ z_RL := List.mem_of_getElem? (i := 115) rfl
theorem r_98_43 : (98, 43, 131) ∈ z_RL := List.mem_of_getElem? (i := 116) rfl
theorem r_98_44 : (98, 44, 132) ∈ z_RL := List.mem_of_getElem? (i := 117) rfl
theorem r_98_45 : (98, 45, 133) ∈ z_RL := List.mem_of_getElem? (i := 118) rfl
theorem r_98_46 : (98, 46, 134) ∈ z_RL := List.mem_of_getElem? (i := 119) rfl
theorem r_98_47 : (98, 47, 135) ∈ z_RL := List.mem_of_getElem? (i := 120) rfl
def z_lawS : List z_H := [.inr (0, [2, 2, 2, 2, 0, 0, 0, 0, 0, 0, 0, 0, 0]), .inl (0, 8), .inl (0, 8), .inl (0, 8), .inl (0, 8)]
def z_lawR : List (Option Nat) := [some 1, some 2, some 3, some 4, none, none, none, none, none, none, none, none, none]
def z_shipS : List z_H := [.inr (3, [0, 0, 0, 2, 2, 2, 2, 2, 2, 2, 2, 2, 2]), .inl (0, 6), .inl (0, 6), .inl (0, 14), .inl (0, 14), .inl (0, 14), .inl (0, 14), .inl (0, 14), .inl (0, 14), .inl (0, 5), .inl (0, 3)]
def z_shipR : List (Option Nat) := [none, none, none, some 1, some 2, some 3, some 4, some 5, some 6, some 7, some 8, some 9, some 10]
def z_LAWS : List Nat := [51, 56, 61, 66, 71]
def z_SHIPS : List Nat := [4, 15, 76, 87]
/-- an object with its own arrays behind it -/
def z_blk (S : List z_H) (Rf : List (Option Nat)) (sh : List z_H) (ρ : Nat → Nat → Option Nat) (o : Nat) : Prop := (∀ (j : Nat) (x : z_H), S[j]? = some x → sh[o + j]? = some x) ∧ ∀ (k r : Nat), Rf[k]? = some (some r) → ρ o k = some (o + r)
theorem z_blk.r {S : List z_H} {Rf : List (Option Nat)} {sh : List z_H} {ρ : Nat → Nat → Option Nat} {o : Nat} {μ : z_M} (h : z_blk S Rf sh ρ o) (hρ : μ.2.2 = ρ) (k : Nat) {r : Nat} (hk : Rf[k]? = some (some r)) : μ.2.2 o k = some (o + r) := by
  rw [hρ]
  exact h.2 k r hk
/-- all cells are made, the fixed references stand, those that move are where they may be -/
def z_ok (sh : List z_H) (ρ : Nat → Nat → Option Nat) : Prop := sh = z_SH ∧ (∀ q ∈ z_RL, ρ q.1 q.2.1 = some q.2.2) ∧ (∀ r, ρ 0 9 = some r → r ∈ z_LAWS) ∧ (∀ k r, ρ 1 k = some r → r ∈ z_LAWS) ∧ (∀ k r, ρ 26 k = some r → r ∈ [76, 87]) ∧ (∀ k r, ρ 39 k = some r → r ∈ [40, 41, 42, 43, 44, 45])
section ZOk
variable {sh : List z_H} {ρ : Nat → Nat → Option Nat} {μ : z_M}
theorem z_ok.s (h : z_ok sh ρ) {i : Nat} {x : z_H} (hi : z_SH[i]? = some x) : sh[i]? = some x := by
  rw [h.1]
  exact hi
theorem z_ok.r (h : z_ok sh ρ) (hρ : μ.2.2 = ρ) {i k r : Nat} (hq : (i, k, r) ∈ z_RL) : μ.2.2 i k = some r := by
  rw [hρ]
  exact h.2.1 _ hq
theorem z_blk_of {S : List z_H} {Rf : List (Option Nat)} (h : z_ok sh ρ) (o : Nat) (h1 : (List.range S.length).all (fun j => decide (z_SH[o + j]? = S[j]?)) = true) (h2 : (List.range Rf.length).all (fun k => match Rf[k]? with | some (some r) => decide ((o, k, o + r) ∈ z_RL) | _ => true) = true) : z_blk S Rf sh ρ o := by
  refine ⟨fun j x hj => ?_, fun k r hk => ?_⟩
  · rw [h.1]
    have hl := (List.getElem?_eq_some_iff.mp hj).1
    have := List.all_eq_true.mp h1 j (List.mem_range.mpr hl)
    rw [of_decide_eq_true this]
    exact hj
  · have hl := (List.getElem?_eq_some_iff.mp hk).1
    have := List.all_eq_true.mp h2 k (List.mem_range.mpr hl)
    rw [hk] at this
    exact h.2.1 _ (of_decide_eq_true this)
theorem z_ok.lawB (h : z_ok sh ρ) {o : Nat} (ho : o ∈ z_LAWS) : z_blk z_lawS z_lawR sh ρ o := by
  have ho : o ∈ [51, 56, 61, 66, 71] := ho
  simp only [List.mem_cons, List.not_mem_nil, or_false] at ho
  rcases ho with rfl | rfl | rfl | rfl | rfl <;> exact z_blk_of h _ (by decide +kernel) (by decide +kernel)
theorem z_ok.shipB (h : z_ok sh ρ) {o : Nat} (ho : o ∈ z_SHIPS) : z_blk z_shipS z_shipR sh ρ o := by
  have ho : o ∈ [4, 15, 76, 87] := ho
  simp only [List.mem_cons, List.not_mem_nil, or_false] at ho
  rcases ho with rfl | rfl | rfl | rfl <;> exact z_blk_of h _ (by decide +kernel) (by decide +kernel)
theorem z_ok.draft (h : z_ok sh ρ) (hρ : μ.2.2 = ρ) {r : Nat} (hr : μ.2.2 0 9 = some r) : z_blk z_lawS z_lawR sh ρ r := h.lawB (h.2.2.1 r (by rw [← hρ]; exact hr))
theorem z_ok.lawsAt (h : z_ok sh ρ) (hρ : μ.2.2 = ρ) {k r : Nat} (hr : μ.2.2 1 k = some r) : z_blk z_lawS z_lawR sh ρ r := h.lawB (h.2.2.2.1 k r (by rw [← hρ]; exact hr))
theorem z_ok.imgAt (h : z_ok sh ρ) (hρ : μ.2.2 = ρ) {k r : Nat} (hr : μ.2.2 26 k = some r) : z_blk z_shipS z_shipR sh ρ r := by
  have := h.2.2.2.2.1 k r (by rw [← hρ]; exact hr)
  refine h.shipB ?_
  simp only [List.mem_cons, List.not_mem_nil, or_false] at this
  rcases this with rfl | rfl <;> decide
theorem z_ok.rowAt (h : z_ok sh ρ) (hρ : μ.2.2 = ρ) {k r : Nat} (hr : μ.2.2 39 k = some r) : sh[r]? = some (.inl (0, 14)) := by
  have := h.2.2.2.2.2 k r (by rw [← hρ]; exact hr)
  rw [h.1]
  simp only [List.mem_cons, List.not_mem_nil, or_false] at this
  rcases this with rfl | rfl | rfl | rfl | rfl | rfl <;> rfl
end ZOk
theorem iX0 : ∀ w ∈ u_ws RX0 TX0 13, w ∈ z_T := by decide +kernel
theorem iX1 : ∀ w ∈ u_ws RX1 TX1 9, w ∈ z_T := by decide +kernel
theorem iX2 : ∀ w ∈ u_ws RX2 TX2 16, w ∈ z_T := by decide +kernel
theorem iX3 : ∀ w ∈ u_ws RX3 TX3 13, w ∈ z_T := by decide +kernel
theorem iX4 : ∀ w ∈ u_ws RX4 TX4 10, w ∈ z_T := by decide +kernel
theorem iX5 : ∀ w ∈ u_ws RX5 TX5 48, w ∈ z_T := by decide +kernel
theorem m_0 : Cond.selects RX1 yX1_nextToken yX1_nextToken ∈ z_T := z_T_in 0 (by decide +kernel) (by decide +kernel)
theorem m_1 : Cond.selects RX1 yX1_beginClause yX1_beginClause ∈ z_T := z_T_in 1 (by decide +kernel) (by decide +kernel)
theorem m_2 : Cond.selects RX1 yX1_wordIn yX1_wordIn ∈ z_T := z_T_in 2 (by decide +kernel) (by decide +kernel)
theorem m_3 : Cond.selects RX1 yX1_isWordAt yX1_isWordAt ∈ z_T := z_T_in 3 (by decide +kernel) (by decide +kernel)
theorem m_4 : Cond.selects RX1 yX1_refuse yX1_refuse ∈ z_T := z_T_in 4 (by decide +kernel) (by decide +kernel)
theorem m_5 : Cond.selects RX1 yX1_isOneTooMany yX1_isOneTooMany ∈ z_T := z_T_in 5 (by decide +kernel) (by decide +kernel)
theorem m_6 : Cond.selects RX1 yX1_readBody yX1_readBody ∈ z_T := z_T_in 6 (by decide +kernel) (by decide +kernel)
theorem m_7 : Cond.selects RX1 yX1_readRides yX1_readRides ∈ z_T := z_T_in 7 (by decide +kernel) (by decide +kernel)
theorem m_8 : Cond.selects RX1 yX1_readKind yX1_readKind ∈ z_T := z_T_in 8 (by decide +kernel) (by decide +kernel)
theorem m_9 : Cond.selects RX1 yX1_readFund yX1_readFund ∈ z_T := z_T_in 9 (by decide +kernel) (by decide +kernel)
theorem m_10 : Cond.selects RX1 yX1_isFundNext yX1_isFundNext ∈ z_T := z_T_in 10 (by decide +kernel) (by decide +kernel)
theorem m_11 : Cond.selects RX1 yX1_readAhead yX1_readAhead ∈ z_T := z_T_in 11 (by decide +kernel) (by decide +kernel)
theorem m_12 : Cond.selects RX1 yX1_readFirst yX1_readFirst ∈ z_T := z_T_in 12 (by decide +kernel) (by decide +kernel)
theorem m_13 : Cond.selects RX1 yX1_readBehind yX1_readBehind ∈ z_T := z_T_in 13 (by decide +kernel) (by decide +kernel)
theorem m_14 : Cond.selects RX1 yX1_readWithin yX1_readWithin ∈ z_T := z_T_in 14 (by decide +kernel) (by decide +kernel)
theorem m_15 : Cond.selects RX1 yX1_readDies yX1_readDies ∈ z_T := z_T_in 15 (by decide +kernel) (by decide +kernel)
theorem m_16 : Cond.selects RX1 yX1_readNumber yX1_readNumber ∈ z_T := z_T_in 16 (by decide +kernel) (by decide +kernel)
theorem m_17 : Cond.selects RX1 yX1_readLeave yX1_readLeave ∈ z_T := z_T_in 17 (by decide +kernel) (by decide +kernel)
theorem m_18 : Cond.selects RX1 yX1_readCosts yX1_readCosts ∈ z_T := z_T_in 18 (by decide +kernel) (by decide +kernel)
theorem m_19 : Cond.selects RX1 yX1_readClose yX1_readClose ∈ z_T := z_T_in 19 (by decide +kernel) (by decide +kernel)
theorem m_20 : Cond.selects RX0 yX0_followSteps yX0_followSteps ∈ z_T := z_T_in 20 (by decide +kernel) (by decide +kernel)
theorem m_21 : Cond.selects RX0 yX0_raiseRanks yX0_raiseRanks ∈ z_T := z_T_in 21 (by decide +kernel) (by decide +kernel)
theorem m_22 : Cond.selects RX4 yX4_isClaim yX4_isClaim ∈ z_T := z_T_in 22 (by decide +kernel) (by decide +kernel)
theorem m_23 : Cond.selects RX3 yX3_lastUnbarred yX3_lastUnbarred ∈ z_T := z_T_in 23 (by decide +kernel) (by decide +kernel)
theorem m_24 : Cond.selects RX3 yX3_lacksLeave yX3_lacksLeave ∈ z_T := z_T_in 24 (by decide +kernel) (by decide +kernel)
theorem m_25 : Cond.selects RX2 yX2_joinLine yX2_joinLine ∈ z_T := z_T_in 25 (by decide +kernel) (by decide +kernel)
theorem m_26 : Cond.selects RX2 yX2_payAllFrom yX2_payAllFrom ∈ z_T := z_T_in 26 (by decide +kernel) (by decide +kernel)
theorem m_27 : Cond.selects RX2 yX2_payFund yX2_payFund ∈ z_T := z_T_in 27 (by decide +kernel) (by decide +kernel)
theorem m_28 : Cond.selects RX2 yX2_marshal yX2_marshal ∈ z_T := z_T_in 28 (by decide +kernel) (by decide +kernel)
theorem m_29 : Cond.selects RX2 yX2_mostPayable yX2_mostPayable ∈ z_T := z_T_in 29 (by decide +kernel) (by decide +kernel)
theorem m_30 : Cond.selects RX2 yX2_wantedOf yX2_wantedOf ∈ z_T := z_T_in 30 (by decide +kernel) (by decide +kernel)
theorem m_31 : Cond.selects RX2 yX2_nextOrder yX2_nextOrder ∈ z_T := z_T_in 31 (by decide +kernel) (by decide +kernel)
theorem m_32 : Cond.selects RX2 yX2_swapFunds yX2_swapFunds ∈ z_T := z_T_in 32 (by decide +kernel) (by decide +kernel)
theorem m_33 : Cond.selects RX2 yX2_paidForShip yX2_paidForShip ∈ z_T := z_T_in 33 (by decide +kernel) (by decide +kernel)
theorem m_34 : Cond.selects RX4 yX4_holdingWithout yX4_holdingWithout ∈ z_T := z_T_in 34 (by decide +kernel) (by decide +kernel)
theorem m_35 : Cond.selects RX4 yX4_canSailAgain yX4_canSailAgain ∈ z_T := z_T_in 35 (by decide +kernel) (by decide +kernel)
theorem m_36 : Cond.selects RX4 yX4_supposeVoyage yX4_supposeVoyage ∈ z_T := z_T_in 36 (by decide +kernel) (by decide +kernel)
theorem m_37 : Cond.selects RX4 yX4_wiseFor yX4_wiseFor ∈ z_T := z_T_in 37 (by decide +kernel) (by decide +kernel)
theorem m_38 : Cond.selects RX4 yX4_worthFor yX4_worthFor ∈ z_T := z_T_in 38 (by decide +kernel) (by decide +kernel)
theorem m_39 : Cond.selects RX4 yX4_hangsOn yX4_hangsOn ∈ z_T := z_T_in 39 (by decide +kernel) (by decide +kernel)
theorem m_40 : Cond.selects RX5 yX5_bare yX5_bare ∈ z_T := z_T_in 40 (by decide +kernel) (by decide +kernel)
theorem m_41 : Cond.selects RX5 yX5_keepLaw yX5_keepLaw ∈ z_T := z_T_in 41 (by decide +kernel) (by decide +kernel)
theorem m_42 : Cond.selects RX5 yX5_findRanks yX5_findRanks ∈ z_T := z_T_in 42 (by decide +kernel) (by decide +kernel)
theorem m_43 : Cond.selects RX5 yX5_areAlike yX5_areAlike ∈ z_T := z_T_in 43 (by decide +kernel) (by decide +kernel)
theorem m_44 : Cond.selects RX5 yX5_levelRanks yX5_levelRanks ∈ z_T := z_T_in 44 (by decide +kernel) (by decide +kernel)
theorem m_46 : Cond.selects RX5 yX5_here yX5_here ∈ z_T := z_T_in 46 (by decide +kernel) (by decide +kernel)
theorem m_47 : Cond.selects RX5 yX5_takeClause yX5_takeClause ∈ z_T := z_T_in 47 (by decide +kernel) (by decide +kernel)
theorem m_48 : Cond.selects RX5 yX5_readWord yX5_readWord ∈ z_T := z_T_in 48 (by decide +kernel) (by decide +kernel)
theorem m_49 : Cond.selects RX5 yX5_clauseOf yX5_clauseOf ∈ z_T := z_T_in 49 (by decide +kernel) (by decide +kernel)
theorem m_50 : Cond.selects RX5 yX5_fails yX5_fails ∈ z_T := z_T_in 50 (by decide +kernel) (by decide +kernel)
theorem m_51 : Cond.selects RX5 yX5_takeRides yX5_takeRides ∈ z_T := z_T_in 51 (by decide +kernel) (by decide +kernel)
theorem m_52 : Cond.selects RX5 yX5_takeKind yX5_takeKind ∈ z_T := z_T_in 52 (by decide +kernel) (by decide +kernel)
theorem m_53 : Cond.selects RX5 yX5_kindOf yX5_kindOf ∈ z_T := z_T_in 53 (by decide +kernel) (by decide +kernel)
theorem m_54 : Cond.selects RX5 yX5_fundOf yX5_fundOf ∈ z_T := z_T_in 54 (by decide +kernel) (by decide +kernel)
theorem m_55 : Cond.selects RX5 yX5_takeAhead yX5_takeAhead ∈ z_T := z_T_in 55 (by decide +kernel) (by decide +kernel)
theorem m_56 : Cond.selects RX5 yX5_takeOnce yX5_takeOnce ∈ z_T := z_T_in 56 (by decide +kernel) (by decide +kernel)
theorem m_57 : Cond.selects RX5 yX5_takeNumber yX5_takeNumber ∈ z_T := z_T_in 57 (by decide +kernel) (by decide +kernel)
theorem m_58 : Cond.selects RX5 yX5_withinOf yX5_withinOf ∈ z_T := z_T_in 58 (by decide +kernel) (by decide +kernel)
theorem m_59 : Cond.selects RX5 yX5_takeOfKind yX5_takeOfKind ∈ z_T := z_T_in 59 (by decide +kernel) (by decide +kernel)
theorem m_60 : Cond.selects RX5 yX5_ring yX5_ring ∈ z_T := z_T_in 60 (by decide +kernel) (by decide +kernel)
theorem m_61 : Cond.selects RX5 yX5_putClaim yX5_putClaim ∈ z_T := z_T_in 61 (by decide +kernel) (by decide +kernel)
theorem m_62 : Cond.selects RX5 yX5_isClaim yX5_isClaim ∈ z_T := z_T_in 62 (by decide +kernel) (by decide +kernel)
theorem m_63 : Cond.selects RX5 yX5_voyageOf yX5_voyageOf ∈ z_T := z_T_in 63 (by decide +kernel) (by decide +kernel)
theorem m_64 : Cond.selects RX5 yX5_why yX5_why ∈ z_T := z_T_in 64 (by decide +kernel) (by decide +kernel)
theorem m_65 : Cond.selects RX5 yX5_order2 yX5_order2 ∈ z_T := z_T_in 65 (by decide +kernel) (by decide +kernel)
theorem m_66 : Cond.selects RX5 yX5_isThere yX5_isThere ∈ z_T := z_T_in 66 (by decide +kernel) (by decide +kernel)
theorem m_67 : Cond.selects RX5 yX5_isOn yX5_isOn ∈ z_T := z_T_in 67 (by decide +kernel) (by decide +kernel)
theorem m_68 : Cond.selects RX5 yX5_payOut yX5_payOut ∈ z_T := z_T_in 68 (by decide +kernel) (by decide +kernel)
theorem m_69 : Cond.selects RX5 yX5_payAll yX5_payAll ∈ z_T := z_T_in 69 (by decide +kernel) (by decide +kernel)
theorem m_70 : Cond.selects RX5 yX5_findStep yX5_findStep ∈ z_T := z_T_in 70 (by decide +kernel) (by decide +kernel)
theorem m_71 : Cond.selects RX5 yX5_isWanting yX5_isWanting ∈ z_T := z_T_in 71 (by decide +kernel) (by decide +kernel)
theorem m_72 : Cond.selects RX5 yX5_wants yX5_wants ∈ z_T := z_T_in 72 (by decide +kernel) (by decide +kernel)
theorem m_73 : Cond.selects RX5 yX5_payStep yX5_payStep ∈ z_T := z_T_in 73 (by decide +kernel) (by decide +kernel)
theorem m_74 : Cond.selects RX5 yX5_pay yX5_pay ∈ z_T := z_T_in 74 (by decide +kernel) (by decide +kernel)
theorem m_75 : Cond.selects RX5 yX5_having yX5_having ∈ z_T := z_T_in 75 (by decide +kernel) (by decide +kernel)
theorem m_76 : Cond.selects RX5 yX5_hanging yX5_hanging ∈ z_T := z_T_in 76 (by decide +kernel) (by decide +kernel)
theorem m_78 : Cond.initialized RX4 ∈ z_T := z_T_in 78 (by decide +kernel) (by decide +kernel)
theorem m_79 : Cond.initialized RX1 ∈ z_T := z_T_in 79 (by decide +kernel) (by decide +kernel)
theorem m_80 : Cond.initialized RX3 ∈ z_T := z_T_in 80 (by decide +kernel) (by decide +kernel)
theorem m_81 : Cond.initialized RX2 ∈ z_T := z_T_in 81 (by decide +kernel) (by decide +kernel)
theorem m_82 : Cond.initialized RX0 ∈ z_T := z_T_in 82 (by decide +kernel) (by decide +kernel)
theorem m_83 : Cond.initialized RX5 ∈ z_T := z_T_in 83 (by decide +kernel) (by decide +kernel)
theorem m_84 : Cond.initialized RJ0 ∈ z_T := z_T_in 84 (by decide +kernel) (by decide +kernel)
theorem m_85 : Cond.initialized RJ1 ∈ z_T := z_T_in 85 (by decide +kernel) (by decide +kernel)
theorem m_86 : Cond.initialized RJ3 ∈ z_T := z_T_in 86 (by decide +kernel) (by decide +kernel)
theorem m_88 : Cond.initialized "java/lang/Math" ∈ z_T := z_T_in 88 (by decide +kernel) (by decide +kernel)
theorem m_89 : Cond.initialized RJ6 ∈ z_T := z_T_in 89 (by decide +kernel) (by decide +kernel)
theorem m_90 : Cond.initialized "java/lang/System" ∈ z_T := z_T_in 90 (by decide +kernel) (by decide +kernel)
theorem m_107 : Cond.fieldLink RX1 9 "LastLent$LawText" "bytes" "[I" ∈ z_T := z_T_in 107 (by decide +kernel) (by decide +kernel)
theorem m_108 : Cond.fieldLink RX1 22 "LastLent$LawText" "size" "I" ∈ z_T := z_T_in 108 (by decide +kernel) (by decide +kernel)
theorem m_109 : Cond.fieldLink RX4 59 "LastLent$LawText" "size" "I" ∈ z_T := z_T_in 109 (by decide +kernel) (by decide +kernel)
theorem m_110 : Cond.fieldLink RX1 15 "LastLent$LawText" "faultNumber" "I" ∈ z_T := z_T_in 110 (by decide +kernel) (by decide +kernel)
theorem m_111 : Cond.fieldLink RX4 75 "LastLent$LawText" "faultNumber" "I" ∈ z_T := z_T_in 111 (by decide +kernel) (by decide +kernel)
theorem m_112 : Cond.fieldLink RX1 19 "LastLent$LawText" "faultPlace" "I" ∈ z_T := z_T_in 112 (by decide +kernel) (by decide +kernel)
theorem m_113 : Cond.fieldLink RX4 81 "LastLent$LawText" "faultPlace" "I" ∈ z_T := z_T_in 113 (by decide +kernel) (by decide +kernel)
theorem m_114 : Cond.fieldLink RX1 42 "LastLent$LawText" "token" "I" ∈ z_T := z_T_in 114 (by decide +kernel) (by decide +kernel)
theorem m_115 : Cond.fieldLink RX1 154 "LastLent$LawText" "start" "I" ∈ z_T := z_T_in 115 (by decide +kernel) (by decide +kernel)
theorem m_116 : Cond.fieldLink RX1 30 "LastLent$LawText" "place" "I" ∈ z_T := z_T_in 116 (by decide +kernel) (by decide +kernel)
theorem m_117 : Cond.fieldLink RX1 33 "LastLent$LawText" "clausesTold" "I" ∈ z_T := z_T_in 117 (by decide +kernel) (by decide +kernel)
theorem m_118 : Cond.fieldLink RX1 36 "LastLent$LawText" "ridesTold" "I" ∈ z_T := z_T_in 118 (by decide +kernel) (by decide +kernel)
theorem m_145 : Cond.fieldLink RX3 42 "LastLent$Ship" "voyages" "I" ∈ z_T := z_T_in 145 (by decide +kernel) (by decide +kernel)
theorem m_146 : Cond.fieldLink RX4 188 "LastLent$Ship" "voyages" "I" ∈ z_T := z_T_in 146 (by decide +kernel) (by decide +kernel)
theorem m_147 : Cond.fieldLink RX3 46 "LastLent$Ship" "claims" "I" ∈ z_T := z_T_in 147 (by decide +kernel) (by decide +kernel)
theorem m_148 : Cond.fieldLink RX2 89 "LastLent$Ship" "claims" "I" ∈ z_T := z_T_in 148 (by decide +kernel) (by decide +kernel)
theorem m_149 : Cond.fieldLink RX4 191 "LastLent$Ship" "claims" "I" ∈ z_T := z_T_in 149 (by decide +kernel) (by decide +kernel)
theorem m_150 : Cond.fieldLink RX3 49 "LastLent$Ship" "leaves" "I" ∈ z_T := z_T_in 150 (by decide +kernel) (by decide +kernel)
theorem m_151 : Cond.fieldLink RX4 178 "LastLent$Ship" "leaves" "I" ∈ z_T := z_T_in 151 (by decide +kernel) (by decide +kernel)
theorem m_152 : Cond.fieldLink RX3 9 "LastLent$Ship" "begins" "[I" ∈ z_T := z_T_in 152 (by decide +kernel) (by decide +kernel)
theorem m_153 : Cond.fieldLink RX3 15 "LastLent$Ship" "ends" "[I" ∈ z_T := z_T_in 153 (by decide +kernel) (by decide +kernel)
theorem m_154 : Cond.fieldLink RX3 18 "LastLent$Ship" "kinds" "[I" ∈ z_T := z_T_in 154 (by decide +kernel) (by decide +kernel)
theorem m_155 : Cond.fieldLink RX2 94 "LastLent$Ship" "kinds" "[I" ∈ z_T := z_T_in 155 (by decide +kernel) (by decide +kernel)
theorem m_156 : Cond.fieldLink RX4 169 "LastLent$Ship" "kinds" "[I" ∈ z_T := z_T_in 156 (by decide +kernel) (by decide +kernel)
theorem m_157 : Cond.fieldLink RX3 21 "LastLent$Ship" "holders" "[I" ∈ z_T := z_T_in 157 (by decide +kernel) (by decide +kernel)
theorem m_158 : Cond.fieldLink RX4 166 "LastLent$Ship" "holders" "[I" ∈ z_T := z_T_in 158 (by decide +kernel) (by decide +kernel)
theorem m_159 : Cond.fieldLink RX2 143 "LastLent$Ship" "holders" "[I" ∈ z_T := z_T_in 159 (by decide +kernel) (by decide +kernel)
theorem m_160 : Cond.fieldLink RX3 24 "LastLent$Ship" "days" "[I" ∈ z_T := z_T_in 160 (by decide +kernel) (by decide +kernel)
theorem m_161 : Cond.fieldLink RX4 172 "LastLent$Ship" "days" "[I" ∈ z_T := z_T_in 161 (by decide +kernel) (by decide +kernel)
theorem m_162 : Cond.fieldLink RX3 27 "LastLent$Ship" "amounts" "[I" ∈ z_T := z_T_in 162 (by decide +kernel) (by decide +kernel)
theorem m_163 : Cond.fieldLink RX2 93 "LastLent$Ship" "amounts" "[I" ∈ z_T := z_T_in 163 (by decide +kernel) (by decide +kernel)
theorem m_164 : Cond.fieldLink RX4 175 "LastLent$Ship" "amounts" "[I" ∈ z_T := z_T_in 164 (by decide +kernel) (by decide +kernel)
theorem m_165 : Cond.fieldLink RX3 30 "LastLent$Ship" "cargoSets" "[I" ∈ z_T := z_T_in 165 (by decide +kernel) (by decide +kernel)
theorem m_166 : Cond.fieldLink RX2 97 "LastLent$Ship" "cargoSets" "[I" ∈ z_T := z_T_in 166 (by decide +kernel) (by decide +kernel)
theorem m_167 : Cond.fieldLink RX4 181 "LastLent$Ship" "cargoSets" "[I" ∈ z_T := z_T_in 167 (by decide +kernel) (by decide +kernel)
theorem m_168 : Cond.fieldLink RX3 33 "LastLent$Ship" "asked" "[I" ∈ z_T := z_T_in 168 (by decide +kernel) (by decide +kernel)
theorem m_169 : Cond.fieldLink RX4 151 "LastLent$Ship" "asked" "[I" ∈ z_T := z_T_in 169 (by decide +kernel) (by decide +kernel)
theorem m_170 : Cond.fieldLink RX3 36 "LastLent$Ship" "sums" "[I" ∈ z_T := z_T_in 170 (by decide +kernel) (by decide +kernel)
theorem m_171 : Cond.fieldLink RX2 60 "LastLent$Ship" "sums" "[I" ∈ z_T := z_T_in 171 (by decide +kernel) (by decide +kernel)
theorem m_172 : Cond.fieldLink RX4 157 "LastLent$Ship" "sums" "[I" ∈ z_T := z_T_in 172 (by decide +kernel) (by decide +kernel)
theorem m_173 : Cond.fieldLink RX3 39 "LastLent$Ship" "owners" "[I" ∈ z_T := z_T_in 173 (by decide +kernel) (by decide +kernel)
theorem m_174 : Cond.fieldLink RX4 163 "LastLent$Ship" "owners" "[I" ∈ z_T := z_T_in 174 (by decide +kernel) (by decide +kernel)
theorem m_175 : Cond.fieldLink RX2 146 "LastLent$Ship" "owners" "[I" ∈ z_T := z_T_in 175 (by decide +kernel) (by decide +kernel)
theorem m_212 : Cond.fieldLink RX2 9 "LastLent$PayOut" "line" "[I" ∈ z_T := z_T_in 212 (by decide +kernel) (by decide +kernel)
theorem m_213 : Cond.fieldLink RX2 86 "LastLent$PayOut" "lined" "I" ∈ z_T := z_T_in 213 (by decide +kernel) (by decide +kernel)
theorem m_214 : Cond.fieldLink RX2 92 "LastLent$PayOut" "claims" "I" ∈ z_T := z_T_in 214 (by decide +kernel) (by decide +kernel)
theorem m_215 : Cond.fieldLink RX2 15 "LastLent$PayOut" "standings" "[I" ∈ z_T := z_T_in 215 (by decide +kernel) (by decide +kernel)
theorem m_216 : Cond.fieldLink RX2 18 "LastLent$PayOut" "rideSets" "[I" ∈ z_T := z_T_in 216 (by decide +kernel) (by decide +kernel)
theorem m_217 : Cond.fieldLink RX2 21 "LastLent$PayOut" "amounts" "[I" ∈ z_T := z_T_in 217 (by decide +kernel) (by decide +kernel)
theorem m_218 : Cond.fieldLink RX2 24 "LastLent$PayOut" "wants" "[I" ∈ z_T := z_T_in 218 (by decide +kernel) (by decide +kernel)
theorem m_219 : Cond.fieldLink RX2 27 "LastLent$PayOut" "gives" "[I" ∈ z_T := z_T_in 219 (by decide +kernel) (by decide +kernel)
theorem m_220 : Cond.fieldLink RX2 30 "LastLent$PayOut" "sums" "[I" ∈ z_T := z_T_in 220 (by decide +kernel) (by decide +kernel)
theorem m_221 : Cond.fieldLink RX2 33 "LastLent$PayOut" "rests" "[I" ∈ z_T := z_T_in 221 (by decide +kernel) (by decide +kernel)
theorem m_222 : Cond.fieldLink RX4 231 "LastLent$PayOut" "rests" "[I" ∈ z_T := z_T_in 222 (by decide +kernel) (by decide +kernel)
theorem m_223 : Cond.fieldLink RX2 36 "LastLent$PayOut" "funds" "[I" ∈ z_T := z_T_in 223 (by decide +kernel) (by decide +kernel)
theorem m_224 : Cond.fieldLink RX4 241 "LastLent$PayOut" "funds" "[I" ∈ z_T := z_T_in 224 (by decide +kernel) (by decide +kernel)
theorem m_225 : Cond.fieldLink RX2 39 "LastLent$PayOut" "bestFunds" "[I" ∈ z_T := z_T_in 225 (by decide +kernel) (by decide +kernel)
theorem m_226 : Cond.fieldLink RX2 44 "LastLent$PayOut" "paidAfter" "[[I" ∈ z_T := z_T_in 226 (by decide +kernel) (by decide +kernel)
theorem m_227 : Cond.fieldLink RX2 47 "LastLent$PayOut" "totalAfter" "[I" ∈ z_T := z_T_in 227 (by decide +kernel) (by decide +kernel)
theorem m_228 : Cond.fieldLink RX2 50 "LastLent$PayOut" "backAsked" "[I" ∈ z_T := z_T_in 228 (by decide +kernel) (by decide +kernel)
theorem m_229 : Cond.fieldLink RX4 247 "LastLent$PayOut" "backAsked" "[I" ∈ z_T := z_T_in 229 (by decide +kernel) (by decide +kernel)
theorem m_230 : Cond.fieldLink RX2 53 "LastLent$PayOut" "backGiven" "[I" ∈ z_T := z_T_in 230 (by decide +kernel) (by decide +kernel)
theorem m_231 : Cond.fieldLink RX4 250 "LastLent$PayOut" "backGiven" "[I" ∈ z_T := z_T_in 231 (by decide +kernel) (by decide +kernel)
theorem m_272 : Cond.instanceMethod yX0_tellNothing ∈ z_T := z_T_in 272 (by decide +kernel) (by decide +kernel)
theorem m_273 : Cond.selects RX0 yX0_tellNothing yX0_tellNothing ∈ z_T := z_T_in 273 (by decide +kernel) (by decide +kernel)
theorem m_274 : Cond.code yX0_tellNothing cX0_tellNothing 2 none ∈ z_T := z_T_in 274 (by decide +kernel) (by decide +kernel)
theorem m_275 : Cond.fieldLink RX0 9 "LastLent$Law" "rides" "[I" ∈ z_T := z_T_in 275 (by decide +kernel) (by decide +kernel)
theorem m_276 : Cond.fieldLink RX4 90 "LastLent$Law" "rides" "[I" ∈ z_T := z_T_in 276 (by decide +kernel) (by decide +kernel)
theorem m_277 : Cond.fieldLink RX1 112 "LastLent$Law" "rides" "[I" ∈ z_T := z_T_in 277 (by decide +kernel) (by decide +kernel)
theorem m_278 : Cond.fieldLink RX0 15 "LastLent$Law" "dies" "[I" ∈ z_T := z_T_in 278 (by decide +kernel) (by decide +kernel)
theorem m_279 : Cond.fieldLink RX4 103 "LastLent$Law" "dies" "[I" ∈ z_T := z_T_in 279 (by decide +kernel) (by decide +kernel)
theorem m_280 : Cond.fieldLink RX3 84 "LastLent$Law" "dies" "[I" ∈ z_T := z_T_in 280 (by decide +kernel) (by decide +kernel)
theorem m_281 : Cond.fieldLink RX1 145 "LastLent$Law" "dies" "[I" ∈ z_T := z_T_in 281 (by decide +kernel) (by decide +kernel)
theorem m_282 : Cond.fieldLink RX0 18 "LastLent$Law" "aheadOf" "[I" ∈ z_T := z_T_in 282 (by decide +kernel) (by decide +kernel)
theorem m_283 : Cond.fieldLink RX4 128 "LastLent$Law" "aheadOf" "[I" ∈ z_T := z_T_in 283 (by decide +kernel) (by decide +kernel)
theorem m_284 : Cond.fieldLink RX1 125 "LastLent$Law" "aheadOf" "[I" ∈ z_T := z_T_in 284 (by decide +kernel) (by decide +kernel)
theorem m_285 : Cond.fieldLink RX0 21 "LastLent$Law" "ranks" "[I" ∈ z_T := z_T_in 285 (by decide +kernel) (by decide +kernel)
theorem m_286 : Cond.fieldLink RX4 87 "LastLent$Law" "ranks" "[I" ∈ z_T := z_T_in 286 (by decide +kernel) (by decide +kernel)
theorem m_287 : Cond.fieldLink RX0 27 "LastLent$Law" "firsts" "I" ∈ z_T := z_T_in 287 (by decide +kernel) (by decide +kernel)
theorem m_288 : Cond.fieldLink RX4 93 "LastLent$Law" "firsts" "I" ∈ z_T := z_T_in 288 (by decide +kernel) (by decide +kernel)
theorem m_289 : Cond.fieldLink RX1 128 "LastLent$Law" "firsts" "I" ∈ z_T := z_T_in 289 (by decide +kernel) (by decide +kernel)
theorem m_290 : Cond.fieldLink RX0 31 "LastLent$Law" "behinds" "I" ∈ z_T := z_T_in 290 (by decide +kernel) (by decide +kernel)
theorem m_291 : Cond.fieldLink RX4 100 "LastLent$Law" "behinds" "I" ∈ z_T := z_T_in 291 (by decide +kernel) (by decide +kernel)
theorem m_292 : Cond.fieldLink RX1 131 "LastLent$Law" "behinds" "I" ∈ z_T := z_T_in 292 (by decide +kernel) (by decide +kernel)
theorem m_293 : Cond.fieldLink RX0 34 "LastLent$Law" "needLeave" "I" ∈ z_T := z_T_in 293 (by decide +kernel) (by decide +kernel)
theorem m_294 : Cond.fieldLink RX4 106 "LastLent$Law" "needLeave" "I" ∈ z_T := z_T_in 294 (by decide +kernel) (by decide +kernel)
theorem m_295 : Cond.fieldLink RX3 90 "LastLent$Law" "needLeave" "I" ∈ z_T := z_T_in 295 (by decide +kernel) (by decide +kernel)
theorem m_296 : Cond.fieldLink RX1 148 "LastLent$Law" "needLeave" "I" ∈ z_T := z_T_in 296 (by decide +kernel) (by decide +kernel)
theorem m_297 : Cond.fieldLink RX0 37 "LastLent$Law" "ring" "I" ∈ z_T := z_T_in 297 (by decide +kernel) (by decide +kernel)
theorem m_298 : Cond.fieldLink RX4 109 "LastLent$Law" "ring" "I" ∈ z_T := z_T_in 298 (by decide +kernel) (by decide +kernel)
theorem m_299 : Cond.fieldLink RX0 40 "LastLent$Law" "aheads" "I" ∈ z_T := z_T_in 299 (by decide +kernel) (by decide +kernel)
theorem m_300 : Cond.fieldLink RX1 73 "LastLent$Law" "aheads" "I" ∈ z_T := z_T_in 300 (by decide +kernel) (by decide +kernel)
theorem m_301 : Cond.fieldLink RX4 125 "LastLent$Law" "aheads" "I" ∈ z_T := z_T_in 301 (by decide +kernel) (by decide +kernel)
theorem m_302 : Cond.fieldLink RX0 43 "LastLent$Law" "within" "I" ∈ z_T := z_T_in 302 (by decide +kernel) (by decide +kernel)
theorem m_303 : Cond.fieldLink RX4 116 "LastLent$Law" "within" "I" ∈ z_T := z_T_in 303 (by decide +kernel) (by decide +kernel)
theorem m_304 : Cond.fieldLink RX1 136 "LastLent$Law" "within" "I" ∈ z_T := z_T_in 304 (by decide +kernel) (by decide +kernel)
theorem m_305 : Cond.fieldLink RX2 67 "LastLent$Law" "costs" "I" ∈ z_T := z_T_in 305 (by decide +kernel) (by decide +kernel)
theorem m_306 : Cond.fieldLink RX0 46 "LastLent$Law" "costs" "I" ∈ z_T := z_T_in 306 (by decide +kernel) (by decide +kernel)
theorem m_307 : Cond.fieldLink RX4 122 "LastLent$Law" "costs" "I" ∈ z_T := z_T_in 307 (by decide +kernel) (by decide +kernel)
theorem m_308 : Cond.fieldLink RX1 151 "LastLent$Law" "costs" "I" ∈ z_T := z_T_in 308 (by decide +kernel) (by decide +kernel)
theorem m_309 : Cond.fieldLink RX0 49 "LastLent$Law" "laterVoyages" "Z" ∈ z_T := z_T_in 309 (by decide +kernel) (by decide +kernel)
theorem m_310 : Cond.fieldLink RX4 112 "LastLent$Law" "laterVoyages" "Z" ∈ z_T := z_T_in 310 (by decide +kernel) (by decide +kernel)
theorem m_311 : Cond.fieldLink RX1 89 "LastLent$Law" "laterVoyages" "Z" ∈ z_T := z_T_in 311 (by decide +kernel) (by decide +kernel)
theorem m_312 : Cond.fieldLink RX0 53 "LastLent$Law" "sale" "Z" ∈ z_T := z_T_in 312 (by decide +kernel) (by decide +kernel)
theorem m_313 : Cond.fieldLink RX4 119 "LastLent$Law" "sale" "Z" ∈ z_T := z_T_in 313 (by decide +kernel) (by decide +kernel)
theorem m_314 : Cond.fieldLink RX1 102 "LastLent$Law" "sale" "Z" ∈ z_T := z_T_in 314 (by decide +kernel) (by decide +kernel)
theorem m_315 : Cond.fieldLink RX3 70 "LastLent$Law" "sale" "Z" ∈ z_T := z_T_in 315 (by decide +kernel) (by decide +kernel)
theorem m_343 : Cond.fieldLink RX4 11 "LastLent" "laws" "[LLastLent$Law;" ∈ z_T := z_T_in 343 (by decide +kernel) (by decide +kernel)
theorem m_344 : Cond.fieldLink RX4 18 "LastLent" "text" "LLastLent$LawText;" ∈ z_T := z_T_in 344 (by decide +kernel) (by decide +kernel)
theorem m_345 : Cond.fieldLink RX4 25 "LastLent" "ship" "LLastLent$Ship;" ∈ z_T := z_T_in 345 (by decide +kernel) (by decide +kernel)
theorem m_346 : Cond.fieldLink RX4 29 "LastLent" "supposed" "LLastLent$Ship;" ∈ z_T := z_T_in 346 (by decide +kernel) (by decide +kernel)
theorem m_347 : Cond.fieldLink RX4 32 "LastLent" "images" "[LLastLent$Ship;" ∈ z_T := z_T_in 347 (by decide +kernel) (by decide +kernel)
theorem m_348 : Cond.fieldLink RX4 36 "LastLent" "kept" "[Z" ∈ z_T := z_T_in 348 (by decide +kernel) (by decide +kernel)
theorem m_349 : Cond.fieldLink RX4 43 "LastLent" "payOut" "LLastLent$PayOut;" ∈ z_T := z_T_in 349 (by decide +kernel) (by decide +kernel)
theorem m_350 : Cond.fieldLink RX4 47 "LastLent" "paidBefore" "[I" ∈ z_T := z_T_in 350 (by decide +kernel) (by decide +kernel)
theorem m_351 : Cond.fieldLink RX4 51 "LastLent" "hadBefore" "[I" ∈ z_T := z_T_in 351 (by decide +kernel) (by decide +kernel)
theorem m_352 : Cond.fieldLink RX4 55 "LastLent" "draft" "LLastLent$Law;" ∈ z_T := z_T_in 352 (by decide +kernel) (by decide +kernel)
theorem m_378 : Cond.methodLink RX4 63 yX1_append ∈ z_T := z_T_in 378 (by decide +kernel) (by decide +kernel)
theorem m_379 : Cond.instanceMethod yX1_append ∈ z_T := z_T_in 379 (by decide +kernel) (by decide +kernel)
theorem m_380 : Cond.selects RX1 yX1_append yX1_append ∈ z_T := z_T_in 380 (by decide +kernel) (by decide +kernel)
theorem m_381 : Cond.code yX1_append cX1_append 2 none ∈ z_T := z_T_in 381 (by decide +kernel) (by decide +kernel)
theorem m_386 : Cond.methodLink RX4 67 yX4_isLand ∈ z_T := z_T_in 386 (by decide +kernel) (by decide +kernel)
theorem m_387 : Cond.static yX4_isLand ∈ z_T := z_T_in 387 (by decide +kernel) (by decide +kernel)
theorem m_388 : Cond.code yX4_isLand cX4_isLand 1 (some .boolean) ∈ z_T := z_T_in 388 (by decide +kernel) (by decide +kernel)
theorem m_389 : Cond.methodLink RX4 71 yX1_readInto ∈ z_T := z_T_in 389 (by decide +kernel) (by decide +kernel)
theorem m_390 : Cond.instanceMethod yX1_readInto ∈ z_T := z_T_in 390 (by decide +kernel) (by decide +kernel)
theorem m_391 : Cond.selects RX1 yX1_readInto yX1_readInto ∈ z_T := z_T_in 391 (by decide +kernel) (by decide +kernel)
theorem m_392 : Cond.code yX1_readInto cX1_readInto 4 (some .int) ∈ z_T := z_T_in 392 (by decide +kernel) (by decide +kernel)
theorem m_393 : Cond.methodLink RX1 25 yX0_tellNothing ∈ z_T := z_T_in 393 (by decide +kernel) (by decide +kernel)
theorem m_394 : Cond.methodLink RX1 39 yX1_nextToken ∈ z_T := z_T_in 394 (by decide +kernel) (by decide +kernel)
theorem m_396 : Cond.instanceMethod yX1_nextToken ∈ z_T := z_T_in 396 (by decide +kernel) (by decide +kernel)
theorem m_397 : Cond.code yX1_nextToken cX1_nextToken 1 none ∈ z_T := z_T_in 397 (by decide +kernel) (by decide +kernel)
theorem m_398 : Cond.methodLink RX1 159 yX1_isLetter ∈ z_T := z_T_in 398 (by decide +kernel) (by decide +kernel)
theorem m_399 : Cond.static yX1_isLetter ∈ z_T := z_T_in 399 (by decide +kernel) (by decide +kernel)
theorem m_400 : Cond.code yX1_isLetter cX1_isLetter 1 (some .boolean) ∈ z_T := z_T_in 400 (by decide +kernel) (by decide +kernel)
theorem m_401 : Cond.methodLink RX1 162 yX1_isFigure ∈ z_T := z_T_in 401 (by decide +kernel) (by decide +kernel)
theorem m_402 : Cond.static yX1_isFigure ∈ z_T := z_T_in 402 (by decide +kernel) (by decide +kernel)
theorem m_403 : Cond.code yX1_isFigure cX1_isFigure 1 (some .boolean) ∈ z_T := z_T_in 403 (by decide +kernel) (by decide +kernel)
theorem m_404 : Cond.methodLink RX1 45 yX1_beginClause ∈ z_T := z_T_in 404 (by decide +kernel) (by decide +kernel)
theorem m_406 : Cond.instanceMethod yX1_beginClause ∈ z_T := z_T_in 406 (by decide +kernel) (by decide +kernel)
theorem m_407 : Cond.code yX1_beginClause cX1_beginClause 3 (some .int) ∈ z_T := z_T_in 407 (by decide +kernel) (by decide +kernel)
theorem m_409 : Cond.methodLink RX1 58 yX1_wordIn ∈ z_T := z_T_in 409 (by decide +kernel) (by decide +kernel)
theorem m_411 : Cond.instanceMethod yX1_wordIn ∈ z_T := z_T_in 411 (by decide +kernel) (by decide +kernel)
theorem m_412 : Cond.code yX1_wordIn cX1_wordIn 3 (some .int) ∈ z_T := z_T_in 412 (by decide +kernel) (by decide +kernel)
theorem m_413 : Cond.methodLink RX1 165 yJ0_length_8abf5 ∈ z_T := z_T_in 413 (by decide +kernel) (by decide +kernel)
theorem m_414 : Cond.instanceMethod yJ0_length_8abf5 ∈ z_T := z_T_in 414 (by decide +kernel) (by decide +kernel)
theorem m_415 : Cond.selects RJ0 yJ0_length_8abf5 yJ0_length_8abf5 ∈ z_T := z_T_in 415 (by decide +kernel) (by decide +kernel)
theorem m_416 : Cond.code yJ0_length_8abf5 cJ0_length_8abf5 1 (some .int) ∈ z_T := z_T_in 416 (by decide +kernel) (by decide +kernel)
theorem m_417 : Cond.methodLink RJ0 335 yJ0_coder_7d493 ∈ z_T := z_T_in 417 (by decide +kernel) (by decide +kernel)
theorem m_418 : Cond.instanceMethod yJ0_coder_7d493 ∈ z_T := z_T_in 418 (by decide +kernel) (by decide +kernel)
theorem m_419 : Cond.selects RJ0 yJ0_coder_7d493 yJ0_coder_7d493 ∈ z_T := z_T_in 419 (by decide +kernel) (by decide +kernel)
theorem m_420 : Cond.code yJ0_coder_7d493 cJ0_coder_7d493 1 (some .byte) ∈ z_T := z_T_in 420 (by decide +kernel) (by decide +kernel)
theorem m_421 : Cond.fieldLink RJ0 38 "java/lang/String" "COMPACT_STRINGS" "Z" ∈ z_T := z_T_in 421 (by decide +kernel) (by decide +kernel)
theorem m_423 : Cond.methodLink RX1 171 yX1_isWordAt ∈ z_T := z_T_in 423 (by decide +kernel) (by decide +kernel)
theorem m_425 : Cond.instanceMethod yX1_isWordAt ∈ z_T := z_T_in 425 (by decide +kernel) (by decide +kernel)
theorem m_426 : Cond.code yX1_isWordAt cX1_isWordAt 5 (some .boolean) ∈ z_T := z_T_in 426 (by decide +kernel) (by decide +kernel)
theorem m_427 : Cond.methodLink RX1 175 yJ0_charAt_5068e ∈ z_T := z_T_in 427 (by decide +kernel) (by decide +kernel)
theorem m_428 : Cond.instanceMethod yJ0_charAt_5068e ∈ z_T := z_T_in 428 (by decide +kernel) (by decide +kernel)
theorem m_429 : Cond.selects RJ0 yJ0_charAt_5068e yJ0_charAt_5068e ∈ z_T := z_T_in 429 (by decide +kernel) (by decide +kernel)
theorem m_430 : Cond.code yJ0_charAt_5068e cJ0_charAt_5068e 2 (some .char) ∈ z_T := z_T_in 430 (by decide +kernel) (by decide +kernel)
theorem m_431 : Cond.methodLink RJ0 492 yJ0_isLatin1_aae02 ∈ z_T := z_T_in 431 (by decide +kernel) (by decide +kernel)
theorem m_432 : Cond.instanceMethod yJ0_isLatin1_aae02 ∈ z_T := z_T_in 432 (by decide +kernel) (by decide +kernel)
theorem m_433 : Cond.selects RJ0 yJ0_isLatin1_aae02 yJ0_isLatin1_aae02 ∈ z_T := z_T_in 433 (by decide +kernel) (by decide +kernel)
theorem m_434 : Cond.code yJ0_isLatin1_aae02 cJ0_isLatin1_aae02 1 (some .boolean) ∈ z_T := z_T_in 434 (by decide +kernel) (by decide +kernel)
theorem m_435 : Cond.methodLink RJ0 495 yJ1_charAt_3b067 ∈ z_T := z_T_in 435 (by decide +kernel) (by decide +kernel)
theorem m_436 : Cond.static yJ1_charAt_3b067 ∈ z_T := z_T_in 436 (by decide +kernel) (by decide +kernel)
theorem m_437 : Cond.code yJ1_charAt_3b067 cJ1_charAt_3b067 2 (some .char) ∈ z_T := z_T_in 437 (by decide +kernel) (by decide +kernel)
theorem m_438 : Cond.methodLink RJ1 9 yJ0_checkIndex_df160 ∈ z_T := z_T_in 438 (by decide +kernel) (by decide +kernel)
theorem m_439 : Cond.static yJ0_checkIndex_df160 ∈ z_T := z_T_in 439 (by decide +kernel) (by decide +kernel)
theorem m_440 : Cond.code yJ0_checkIndex_df160 cJ0_checkIndex_df160 2 none ∈ z_T := z_T_in 440 (by decide +kernel) (by decide +kernel)
theorem m_441 : Cond.fieldLink RJ0 1053 "jdk/internal/util/Preconditions" "SIOOBE_FORMATTER" "Ljava/util/function/BiFunction;" ∈ z_T := z_T_in 441 (by decide +kernel) (by decide +kernel)
theorem m_443 : Cond.methodLink RJ0 1059 yJ3_checkIndex_8e157 ∈ z_T := z_T_in 443 (by decide +kernel) (by decide +kernel)
theorem m_444 : Cond.static yJ3_checkIndex_8e157 ∈ z_T := z_T_in 444 (by decide +kernel) (by decide +kernel)
theorem m_445 : Cond.code yJ3_checkIndex_8e157 cJ3_checkIndex_8e157 3 (some .int) ∈ z_T := z_T_in 445 (by decide +kernel) (by decide +kernel)
theorem m_465 : Cond.methodLink RX1 62 yX1_refuse ∈ z_T := z_T_in 465 (by decide +kernel) (by decide +kernel)
theorem m_467 : Cond.instanceMethod yX1_refuse ∈ z_T := z_T_in 467 (by decide +kernel) (by decide +kernel)
theorem m_468 : Cond.code yX1_refuse cX1_refuse 2 (some .boolean) ∈ z_T := z_T_in 468 (by decide +kernel) (by decide +kernel)
theorem m_469 : Cond.methodLink RX1 66 yX1_isOneTooMany ∈ z_T := z_T_in 469 (by decide +kernel) (by decide +kernel)
theorem m_471 : Cond.instanceMethod yX1_isOneTooMany ∈ z_T := z_T_in 471 (by decide +kernel) (by decide +kernel)
theorem m_472 : Cond.code yX1_isOneTooMany cX1_isOneTooMany 3 (some .boolean) ∈ z_T := z_T_in 472 (by decide +kernel) (by decide +kernel)
theorem m_474 : Cond.static yX4_bit ∈ z_T := z_T_in 474 (by decide +kernel) (by decide +kernel)
theorem m_475 : Cond.code yX4_bit cX4_bit 2 (some .int) ∈ z_T := z_T_in 475 (by decide +kernel) (by decide +kernel)
theorem m_476 : Cond.methodLink RX1 49 yX1_readBody ∈ z_T := z_T_in 476 (by decide +kernel) (by decide +kernel)
theorem m_478 : Cond.instanceMethod yX1_readBody ∈ z_T := z_T_in 478 (by decide +kernel) (by decide +kernel)
theorem m_479 : Cond.code yX1_readBody cX1_readBody 3 (some .boolean) ∈ z_T := z_T_in 479 (by decide +kernel) (by decide +kernel)
theorem m_480 : Cond.methodLink RX1 76 yX1_readRides ∈ z_T := z_T_in 480 (by decide +kernel) (by decide +kernel)
theorem m_482 : Cond.instanceMethod yX1_readRides ∈ z_T := z_T_in 482 (by decide +kernel) (by decide +kernel)
theorem m_483 : Cond.code yX1_readRides cX1_readRides 5 (some .boolean) ∈ z_T := z_T_in 483 (by decide +kernel) (by decide +kernel)
theorem m_484 : Cond.methodLink RX1 108 yX1_readKind ∈ z_T := z_T_in 484 (by decide +kernel) (by decide +kernel)
theorem m_486 : Cond.instanceMethod yX1_readKind ∈ z_T := z_T_in 486 (by decide +kernel) (by decide +kernel)
theorem m_487 : Cond.code yX1_readKind cX1_readKind 3 (some .int) ∈ z_T := z_T_in 487 (by decide +kernel) (by decide +kernel)
theorem m_489 : Cond.methodLink RX1 115 yX1_readFund ∈ z_T := z_T_in 489 (by decide +kernel) (by decide +kernel)
theorem m_491 : Cond.instanceMethod yX1_readFund ∈ z_T := z_T_in 491 (by decide +kernel) (by decide +kernel)
theorem m_492 : Cond.code yX1_readFund cX1_readFund 4 (some .boolean) ∈ z_T := z_T_in 492 (by decide +kernel) (by decide +kernel)
theorem m_494 : Cond.methodLink RX1 119 yX1_isFundNext ∈ z_T := z_T_in 494 (by decide +kernel) (by decide +kernel)
theorem m_496 : Cond.instanceMethod yX1_isFundNext ∈ z_T := z_T_in 496 (by decide +kernel) (by decide +kernel)
theorem m_497 : Cond.code yX1_isFundNext cX1_isFundNext 3 (some .boolean) ∈ z_T := z_T_in 497 (by decide +kernel) (by decide +kernel)
theorem m_498 : Cond.methodLink RX1 80 yX1_readAhead ∈ z_T := z_T_in 498 (by decide +kernel) (by decide +kernel)
theorem m_500 : Cond.instanceMethod yX1_readAhead ∈ z_T := z_T_in 500 (by decide +kernel) (by decide +kernel)
theorem m_501 : Cond.code yX1_readAhead cX1_readAhead 4 (some .boolean) ∈ z_T := z_T_in 501 (by decide +kernel) (by decide +kernel)
theorem m_502 : Cond.methodLink RX1 83 yX1_readFirst ∈ z_T := z_T_in 502 (by decide +kernel) (by decide +kernel)
theorem m_504 : Cond.instanceMethod yX1_readFirst ∈ z_T := z_T_in 504 (by decide +kernel) (by decide +kernel)
theorem m_505 : Cond.code yX1_readFirst cX1_readFirst 3 (some .boolean) ∈ z_T := z_T_in 505 (by decide +kernel) (by decide +kernel)
theorem m_506 : Cond.methodLink RX1 86 yX1_readBehind ∈ z_T := z_T_in 506 (by decide +kernel) (by decide +kernel)
theorem m_508 : Cond.instanceMethod yX1_readBehind ∈ z_T := z_T_in 508 (by decide +kernel) (by decide +kernel)
theorem m_509 : Cond.code yX1_readBehind cX1_readBehind 3 (some .boolean) ∈ z_T := z_T_in 509 (by decide +kernel) (by decide +kernel)
theorem m_510 : Cond.methodLink RX1 93 yX1_readWithin ∈ z_T := z_T_in 510 (by decide +kernel) (by decide +kernel)
theorem m_512 : Cond.instanceMethod yX1_readWithin ∈ z_T := z_T_in 512 (by decide +kernel) (by decide +kernel)
theorem m_513 : Cond.code yX1_readWithin cX1_readWithin 3 (some .boolean) ∈ z_T := z_T_in 513 (by decide +kernel) (by decide +kernel)
theorem m_515 : Cond.methodLink RX1 96 yX1_readDies ∈ z_T := z_T_in 515 (by decide +kernel) (by decide +kernel)
theorem m_517 : Cond.instanceMethod yX1_readDies ∈ z_T := z_T_in 517 (by decide +kernel) (by decide +kernel)
theorem m_518 : Cond.code yX1_readDies cX1_readDies 4 (some .boolean) ∈ z_T := z_T_in 518 (by decide +kernel) (by decide +kernel)
theorem m_519 : Cond.methodLink RX1 139 yX1_kindsThatDie ∈ z_T := z_T_in 519 (by decide +kernel) (by decide +kernel)
theorem m_520 : Cond.static yX1_kindsThatDie ∈ z_T := z_T_in 520 (by decide +kernel) (by decide +kernel)
theorem m_521 : Cond.code yX1_kindsThatDie cX1_kindsThatDie 3 (some .int) ∈ z_T := z_T_in 521 (by decide +kernel) (by decide +kernel)
theorem m_522 : Cond.methodLink RX1 142 yX1_readNumber ∈ z_T := z_T_in 522 (by decide +kernel) (by decide +kernel)
theorem m_524 : Cond.instanceMethod yX1_readNumber ∈ z_T := z_T_in 524 (by decide +kernel) (by decide +kernel)
theorem m_525 : Cond.code yX1_readNumber cX1_readNumber 4 (some .int) ∈ z_T := z_T_in 525 (by decide +kernel) (by decide +kernel)
theorem m_526 : Cond.methodLink RX1 99 yX1_readLeave ∈ z_T := z_T_in 526 (by decide +kernel) (by decide +kernel)
theorem m_528 : Cond.instanceMethod yX1_readLeave ∈ z_T := z_T_in 528 (by decide +kernel) (by decide +kernel)
theorem m_529 : Cond.code yX1_readLeave cX1_readLeave 3 (some .boolean) ∈ z_T := z_T_in 529 (by decide +kernel) (by decide +kernel)
theorem m_530 : Cond.methodLink RX1 105 yX1_readCosts ∈ z_T := z_T_in 530 (by decide +kernel) (by decide +kernel)
theorem m_532 : Cond.instanceMethod yX1_readCosts ∈ z_T := z_T_in 532 (by decide +kernel) (by decide +kernel)
theorem m_533 : Cond.code yX1_readCosts cX1_readCosts 3 (some .boolean) ∈ z_T := z_T_in 533 (by decide +kernel) (by decide +kernel)
theorem m_534 : Cond.methodLink RX1 53 yX1_readClose ∈ z_T := z_T_in 534 (by decide +kernel) (by decide +kernel)
theorem m_536 : Cond.instanceMethod yX1_readClose ∈ z_T := z_T_in 536 (by decide +kernel) (by decide +kernel)
theorem m_537 : Cond.code yX1_readClose cX1_readClose 1 none ∈ z_T := z_T_in 537 (by decide +kernel) (by decide +kernel)
theorem m_538 : Cond.methodLink RX4 78 yX0_settle ∈ z_T := z_T_in 538 (by decide +kernel) (by decide +kernel)
theorem m_539 : Cond.instanceMethod yX0_settle ∈ z_T := z_T_in 539 (by decide +kernel) (by decide +kernel)
theorem m_540 : Cond.selects RX0 yX0_settle yX0_settle ∈ z_T := z_T_in 540 (by decide +kernel) (by decide +kernel)
theorem m_541 : Cond.code yX0_settle cX0_settle 2 none ∈ z_T := z_T_in 541 (by decide +kernel) (by decide +kernel)
theorem m_542 : Cond.methodLink RX0 56 yX0_followSteps ∈ z_T := z_T_in 542 (by decide +kernel) (by decide +kernel)
theorem m_544 : Cond.instanceMethod yX0_followSteps ∈ z_T := z_T_in 544 (by decide +kernel) (by decide +kernel)
theorem m_545 : Cond.code yX0_followSteps cX0_followSteps 3 none ∈ z_T := z_T_in 545 (by decide +kernel) (by decide +kernel)
theorem m_547 : Cond.methodLink RX0 63 yX0_raiseRanks ∈ z_T := z_T_in 547 (by decide +kernel) (by decide +kernel)
theorem m_549 : Cond.instanceMethod yX0_raiseRanks ∈ z_T := z_T_in 549 (by decide +kernel) (by decide +kernel)
theorem m_550 : Cond.code yX0_raiseRanks cX0_raiseRanks 3 none ∈ z_T := z_T_in 550 (by decide +kernel) (by decide +kernel)
theorem m_551 : Cond.methodLink RX0 66 Lib.Math.max.name ∈ z_T := z_T_in 551 (by decide +kernel) (by decide +kernel)
theorem m_552 : Cond.static Lib.Math.max.name ∈ z_T := z_T_in 552 (by decide +kernel) (by decide +kernel)
theorem m_553 : Cond.code Lib.Math.max.name Lib.Math.max.code 2 (some .int) ∈ z_T := z_T_in 553 (by decide +kernel) (by decide +kernel)
theorem m_563 : Cond.methodLink RX4 84 yX4_isKind ∈ z_T := z_T_in 563 (by decide +kernel) (by decide +kernel)
theorem m_564 : Cond.static yX4_isKind ∈ z_T := z_T_in 564 (by decide +kernel) (by decide +kernel)
theorem m_565 : Cond.code yX4_isKind cX4_isKind 1 (some .boolean) ∈ z_T := z_T_in 565 (by decide +kernel) (by decide +kernel)
theorem m_566 : Cond.methodLink RX4 96 yX4_bit ∈ z_T := z_T_in 566 (by decide +kernel) (by decide +kernel)
theorem m_579 : Cond.methodLink RX4 131 yX4_isDay ∈ z_T := z_T_in 579 (by decide +kernel) (by decide +kernel)
theorem m_580 : Cond.static yX4_isDay ∈ z_T := z_T_in 580 (by decide +kernel) (by decide +kernel)
theorem m_581 : Cond.code yX4_isDay cX4_isDay 1 (some .boolean) ∈ z_T := z_T_in 581 (by decide +kernel) (by decide +kernel)
theorem m_582 : Cond.methodLink RX4 134 yX3_lastEnd ∈ z_T := z_T_in 582 (by decide +kernel) (by decide +kernel)
theorem m_583 : Cond.instanceMethod yX3_lastEnd ∈ z_T := z_T_in 583 (by decide +kernel) (by decide +kernel)
theorem m_584 : Cond.selects RX3 yX3_lastEnd yX3_lastEnd ∈ z_T := z_T_in 584 (by decide +kernel) (by decide +kernel)
theorem m_585 : Cond.code yX3_lastEnd cX3_lastEnd 1 (some .int) ∈ z_T := z_T_in 585 (by decide +kernel) (by decide +kernel)
theorem m_586 : Cond.methodLink RX4 138 yX3_addVoyage ∈ z_T := z_T_in 586 (by decide +kernel) (by decide +kernel)
theorem m_587 : Cond.instanceMethod yX3_addVoyage ∈ z_T := z_T_in 587 (by decide +kernel) (by decide +kernel)
theorem m_588 : Cond.selects RX3 yX3_addVoyage yX3_addVoyage ∈ z_T := z_T_in 588 (by decide +kernel) (by decide +kernel)
theorem m_589 : Cond.code yX3_addVoyage cX3_addVoyage 3 (some .int) ∈ z_T := z_T_in 589 (by decide +kernel) (by decide +kernel)
theorem m_594 : Cond.methodLink RX4 141 yX4_isHolder ∈ z_T := z_T_in 594 (by decide +kernel) (by decide +kernel)
theorem m_595 : Cond.static yX4_isHolder ∈ z_T := z_T_in 595 (by decide +kernel) (by decide +kernel)
theorem m_596 : Cond.code yX4_isHolder cX4_isHolder 1 (some .boolean) ∈ z_T := z_T_in 596 (by decide +kernel) (by decide +kernel)
theorem m_597 : Cond.methodLink RX4 144 yX3_addClaim ∈ z_T := z_T_in 597 (by decide +kernel) (by decide +kernel)
theorem m_598 : Cond.instanceMethod yX3_addClaim ∈ z_T := z_T_in 598 (by decide +kernel) (by decide +kernel)
theorem m_599 : Cond.selects RX3 yX3_addClaim yX3_addClaim ∈ z_T := z_T_in 599 (by decide +kernel) (by decide +kernel)
theorem m_600 : Cond.code yX3_addClaim cX3_addClaim 7 (some .int) ∈ z_T := z_T_in 600 (by decide +kernel) (by decide +kernel)
theorem m_605 : Cond.methodLink RX4 148 yX4_isClaim ∈ z_T := z_T_in 605 (by decide +kernel) (by decide +kernel)
theorem m_607 : Cond.instanceMethod yX4_isClaim ∈ z_T := z_T_in 607 (by decide +kernel) (by decide +kernel)
theorem m_608 : Cond.code yX4_isClaim cX4_isClaim 2 (some .boolean) ∈ z_T := z_T_in 608 (by decide +kernel) (by decide +kernel)
theorem m_613 : Cond.methodLink RX4 154 yX4_isFund ∈ z_T := z_T_in 613 (by decide +kernel) (by decide +kernel)
theorem m_614 : Cond.static yX4_isFund ∈ z_T := z_T_in 614 (by decide +kernel) (by decide +kernel)
theorem m_615 : Cond.code yX4_isFund cX4_isFund 1 (some .boolean) ∈ z_T := z_T_in 615 (by decide +kernel) (by decide +kernel)
theorem m_620 : Cond.methodLink RX4 160 yX4_isCargo ∈ z_T := z_T_in 620 (by decide +kernel) (by decide +kernel)
theorem m_621 : Cond.static yX4_isCargo ∈ z_T := z_T_in 621 (by decide +kernel) (by decide +kernel)
theorem m_622 : Cond.code yX4_isCargo cX4_isCargo 1 (some .boolean) ∈ z_T := z_T_in 622 (by decide +kernel) (by decide +kernel)
theorem m_631 : Cond.methodLink RX4 184 yX3_voyageOf ∈ z_T := z_T_in 631 (by decide +kernel) (by decide +kernel)
theorem m_632 : Cond.instanceMethod yX3_voyageOf ∈ z_T := z_T_in 632 (by decide +kernel) (by decide +kernel)
theorem m_633 : Cond.selects RX3 yX3_voyageOf yX3_voyageOf ∈ z_T := z_T_in 633 (by decide +kernel) (by decide +kernel)
theorem m_634 : Cond.code yX3_voyageOf cX3_voyageOf 4 (some .int) ∈ z_T := z_T_in 634 (by decide +kernel) (by decide +kernel)
theorem m_639 : Cond.methodLink RX4 194 yX4_sumOf ∈ z_T := z_T_in 639 (by decide +kernel) (by decide +kernel)
theorem m_640 : Cond.static yX4_sumOf ∈ z_T := z_T_in 640 (by decide +kernel) (by decide +kernel)
theorem m_641 : Cond.code yX4_sumOf cX4_sumOf 4 (some .int) ∈ z_T := z_T_in 641 (by decide +kernel) (by decide +kernel)
theorem m_646 : Cond.methodLink RX4 198 yX3_whyDead ∈ z_T := z_T_in 646 (by decide +kernel) (by decide +kernel)
theorem m_647 : Cond.instanceMethod yX3_whyDead ∈ z_T := z_T_in 647 (by decide +kernel) (by decide +kernel)
theorem m_648 : Cond.selects RX3 yX3_whyDead yX3_whyDead ∈ z_T := z_T_in 648 (by decide +kernel) (by decide +kernel)
theorem m_649 : Cond.code yX3_whyDead cX3_whyDead 4 (some .int) ∈ z_T := z_T_in 649 (by decide +kernel) (by decide +kernel)
theorem m_650 : Cond.methodLink RX3 66 yX3_lastUnbarred ∈ z_T := z_T_in 650 (by decide +kernel) (by decide +kernel)
theorem m_652 : Cond.instanceMethod yX3_lastUnbarred ∈ z_T := z_T_in 652 (by decide +kernel) (by decide +kernel)
theorem m_653 : Cond.code yX3_lastUnbarred cX3_lastUnbarred 6 (some .int) ∈ z_T := z_T_in 653 (by decide +kernel) (by decide +kernel)
theorem m_654 : Cond.methodLink RX3 87 Lib.Math.min.name ∈ z_T := z_T_in 654 (by decide +kernel) (by decide +kernel)
theorem m_655 : Cond.static Lib.Math.min.name ∈ z_T := z_T_in 655 (by decide +kernel) (by decide +kernel)
theorem m_656 : Cond.code Lib.Math.min.name Lib.Math.min.code 2 (some .int) ∈ z_T := z_T_in 656 (by decide +kernel) (by decide +kernel)
theorem m_657 : Cond.methodLink RX3 74 yX3_lacksLeave ∈ z_T := z_T_in 657 (by decide +kernel) (by decide +kernel)
theorem m_659 : Cond.instanceMethod yX3_lacksLeave ∈ z_T := z_T_in 659 (by decide +kernel) (by decide +kernel)
theorem m_660 : Cond.code yX3_lacksLeave cX3_lacksLeave 3 (some .boolean) ∈ z_T := z_T_in 660 (by decide +kernel) (by decide +kernel)
theorem m_666 : Cond.methodLink RX4 202 yX3_lastAlive ∈ z_T := z_T_in 666 (by decide +kernel) (by decide +kernel)
theorem m_667 : Cond.instanceMethod yX3_lastAlive ∈ z_T := z_T_in 667 (by decide +kernel) (by decide +kernel)
theorem m_668 : Cond.selects RX3 yX3_lastAlive yX3_lastAlive ∈ z_T := z_T_in 668 (by decide +kernel) (by decide +kernel)
theorem m_669 : Cond.code yX3_lastAlive cX3_lastAlive 5 (some .int) ∈ z_T := z_T_in 669 (by decide +kernel) (by decide +kernel)
theorem m_670 : Cond.methodLink RX3 78 Lib.Math.max.name ∈ z_T := z_T_in 670 (by decide +kernel) (by decide +kernel)
theorem m_675 : Cond.methodLink RX4 206 yX3_standing ∈ z_T := z_T_in 675 (by decide +kernel) (by decide +kernel)
theorem m_676 : Cond.instanceMethod yX3_standing ∈ z_T := z_T_in 676 (by decide +kernel) (by decide +kernel)
theorem m_677 : Cond.selects RX3 yX3_standing yX3_standing ∈ z_T := z_T_in 677 (by decide +kernel) (by decide +kernel)
theorem m_678 : Cond.code yX3_standing cX3_standing 3 (some .int) ∈ z_T := z_T_in 678 (by decide +kernel) (by decide +kernel)
theorem m_679 : Cond.methodLink RX3 56 yX3_voyageOf ∈ z_T := z_T_in 679 (by decide +kernel) (by decide +kernel)
theorem m_680 : Cond.methodLink RX3 60 yX0_standingOf ∈ z_T := z_T_in 680 (by decide +kernel) (by decide +kernel)
theorem m_681 : Cond.instanceMethod yX0_standingOf ∈ z_T := z_T_in 681 (by decide +kernel) (by decide +kernel)
theorem m_682 : Cond.selects RX0 yX0_standingOf yX0_standingOf ∈ z_T := z_T_in 682 (by decide +kernel) (by decide +kernel)
theorem m_683 : Cond.code yX0_standingOf cX0_standingOf 7 (some .int) ∈ z_T := z_T_in 683 (by decide +kernel) (by decide +kernel)
theorem m_684 : Cond.methodLink RX4 209 yJ6_compare_7cf53 ∈ z_T := z_T_in 684 (by decide +kernel) (by decide +kernel)
theorem m_685 : Cond.static yJ6_compare_7cf53 ∈ z_T := z_T_in 685 (by decide +kernel) (by decide +kernel)
theorem m_686 : Cond.code yJ6_compare_7cf53 cJ6_compare_7cf53 2 (some .int) ∈ z_T := z_T_in 686 (by decide +kernel) (by decide +kernel)
theorem m_691 : Cond.methodLink RX4 214 yX2_lineUp ∈ z_T := z_T_in 691 (by decide +kernel) (by decide +kernel)
theorem m_692 : Cond.instanceMethod yX2_lineUp ∈ z_T := z_T_in 692 (by decide +kernel) (by decide +kernel)
theorem m_693 : Cond.selects RX2 yX2_lineUp yX2_lineUp ∈ z_T := z_T_in 693 (by decide +kernel) (by decide +kernel)
theorem m_694 : Cond.code yX2_lineUp cX2_lineUp 5 none ∈ z_T := z_T_in 694 (by decide +kernel) (by decide +kernel)
theorem m_695 : Cond.methodLink RX2 100 yX0_fundsFor ∈ z_T := z_T_in 695 (by decide +kernel) (by decide +kernel)
theorem m_696 : Cond.instanceMethod yX0_fundsFor ∈ z_T := z_T_in 696 (by decide +kernel) (by decide +kernel)
theorem m_697 : Cond.selects RX0 yX0_fundsFor yX0_fundsFor ∈ z_T := z_T_in 697 (by decide +kernel) (by decide +kernel)
theorem m_698 : Cond.code yX0_fundsFor cX0_fundsFor 4 (some .int) ∈ z_T := z_T_in 698 (by decide +kernel) (by decide +kernel)
theorem m_699 : Cond.methodLink RX2 103 yX3_standing ∈ z_T := z_T_in 699 (by decide +kernel) (by decide +kernel)
theorem m_700 : Cond.methodLink RX2 107 yX3_whyDead ∈ z_T := z_T_in 700 (by decide +kernel) (by decide +kernel)
theorem m_701 : Cond.methodLink RX2 111 yX2_joinLine ∈ z_T := z_T_in 701 (by decide +kernel) (by decide +kernel)
theorem m_703 : Cond.instanceMethod yX2_joinLine ∈ z_T := z_T_in 703 (by decide +kernel) (by decide +kernel)
theorem m_704 : Cond.code yX2_joinLine cX2_joinLine 3 none ∈ z_T := z_T_in 704 (by decide +kernel) (by decide +kernel)
theorem m_705 : Cond.methodLink RX4 218 yX2_stepOf ∈ z_T := z_T_in 705 (by decide +kernel) (by decide +kernel)
theorem m_706 : Cond.instanceMethod yX2_stepOf ∈ z_T := z_T_in 706 (by decide +kernel) (by decide +kernel)
theorem m_707 : Cond.selects RX2 yX2_stepOf yX2_stepOf ∈ z_T := z_T_in 707 (by decide +kernel) (by decide +kernel)
theorem m_708 : Cond.code yX2_stepOf cX2_stepOf 7 (some .int) ∈ z_T := z_T_in 708 (by decide +kernel) (by decide +kernel)
theorem m_714 : Cond.methodLink RX4 221 yX4_isWay ∈ z_T := z_T_in 714 (by decide +kernel) (by decide +kernel)
theorem m_715 : Cond.static yX4_isWay ∈ z_T := z_T_in 715 (by decide +kernel) (by decide +kernel)
theorem m_716 : Cond.code yX4_isWay cX4_isWay 1 (some .boolean) ∈ z_T := z_T_in 716 (by decide +kernel) (by decide +kernel)
theorem m_717 : Cond.methodLink RX4 224 yX2_run ∈ z_T := z_T_in 717 (by decide +kernel) (by decide +kernel)
theorem m_718 : Cond.instanceMethod yX2_run ∈ z_T := z_T_in 718 (by decide +kernel) (by decide +kernel)
theorem m_719 : Cond.selects RX2 yX2_run yX2_run ∈ z_T := z_T_in 719 (by decide +kernel) (by decide +kernel)
theorem m_720 : Cond.code yX2_run cX2_run 6 none ∈ z_T := z_T_in 720 (by decide +kernel) (by decide +kernel)
theorem m_721 : Cond.methodLink RX2 56 yX2_lineUp ∈ z_T := z_T_in 721 (by decide +kernel) (by decide +kernel)
theorem m_723 : Cond.static yX4_copyRow ∈ z_T := z_T_in 723 (by decide +kernel) (by decide +kernel)
theorem m_724 : Cond.code yX4_copyRow cX4_copyRow 2 none ∈ z_T := z_T_in 724 (by decide +kernel) (by decide +kernel)
theorem m_725 : Cond.methodLink RX4 284 Lib.Math.min.name ∈ z_T := z_T_in 725 (by decide +kernel) (by decide +kernel)
theorem m_726 : Cond.methodLink RX4 292 arraycopyName ∈ z_T := z_T_in 726 (by decide +kernel) (by decide +kernel)
theorem m_727 : Cond.static arraycopyName ∈ z_T := z_T_in 727 (by decide +kernel) (by decide +kernel)
theorem m_728 : Cond.native arraycopyName ∈ z_T := z_T_in 728 (by decide +kernel) (by decide +kernel)
theorem m_729 : Cond.methodLink RX2 73 Lib.Math.max.name ∈ z_T := z_T_in 729 (by decide +kernel) (by decide +kernel)
theorem m_730 : Cond.methodLink RX2 79 yX2_payAllFrom ∈ z_T := z_T_in 730 (by decide +kernel) (by decide +kernel)
theorem m_732 : Cond.instanceMethod yX2_payAllFrom ∈ z_T := z_T_in 732 (by decide +kernel) (by decide +kernel)
theorem m_733 : Cond.code yX2_payAllFrom cX2_payAllFrom 3 none ∈ z_T := z_T_in 733 (by decide +kernel) (by decide +kernel)
theorem m_734 : Cond.methodLink RX2 135 yX2_payFund ∈ z_T := z_T_in 734 (by decide +kernel) (by decide +kernel)
theorem m_736 : Cond.instanceMethod yX2_payFund ∈ z_T := z_T_in 736 (by decide +kernel) (by decide +kernel)
theorem m_737 : Cond.code yX2_payFund cX2_payFund 8 (some .int) ∈ z_T := z_T_in 737 (by decide +kernel) (by decide +kernel)
theorem m_738 : Cond.methodLink RX2 139 yX2_share ∈ z_T := z_T_in 738 (by decide +kernel) (by decide +kernel)
theorem m_739 : Cond.static yX2_share ∈ z_T := z_T_in 739 (by decide +kernel) (by decide +kernel)
theorem m_740 : Cond.code yX2_share cX2_share 8 (some .int) ∈ z_T := z_T_in 740 (by decide +kernel) (by decide +kernel)
theorem m_741 : Cond.methodLink RX2 83 yX2_marshal ∈ z_T := z_T_in 741 (by decide +kernel) (by decide +kernel)
theorem m_743 : Cond.instanceMethod yX2_marshal ∈ z_T := z_T_in 743 (by decide +kernel) (by decide +kernel)
theorem m_744 : Cond.code yX2_marshal cX2_marshal 4 none ∈ z_T := z_T_in 744 (by decide +kernel) (by decide +kernel)
theorem m_745 : Cond.methodLink RX2 117 yX2_mostPayable ∈ z_T := z_T_in 745 (by decide +kernel) (by decide +kernel)
theorem m_747 : Cond.instanceMethod yX2_mostPayable ∈ z_T := z_T_in 747 (by decide +kernel) (by decide +kernel)
theorem m_748 : Cond.code yX2_mostPayable cX2_mostPayable 5 (some .int) ∈ z_T := z_T_in 748 (by decide +kernel) (by decide +kernel)
theorem m_749 : Cond.methodLink RX2 124 yX2_wantedOf ∈ z_T := z_T_in 749 (by decide +kernel) (by decide +kernel)
theorem m_751 : Cond.instanceMethod yX2_wantedOf ∈ z_T := z_T_in 751 (by decide +kernel) (by decide +kernel)
theorem m_752 : Cond.code yX2_wantedOf cX2_wantedOf 4 (some .int) ∈ z_T := z_T_in 752 (by decide +kernel) (by decide +kernel)
theorem m_753 : Cond.methodLink RX2 128 Lib.Math.min.name ∈ z_T := z_T_in 753 (by decide +kernel) (by decide +kernel)
theorem m_754 : Cond.methodLink RX2 121 yX2_nextOrder ∈ z_T := z_T_in 754 (by decide +kernel) (by decide +kernel)
theorem m_756 : Cond.instanceMethod yX2_nextOrder ∈ z_T := z_T_in 756 (by decide +kernel) (by decide +kernel)
theorem m_757 : Cond.code yX2_nextOrder cX2_nextOrder 5 (some .int) ∈ z_T := z_T_in 757 (by decide +kernel) (by decide +kernel)
theorem m_758 : Cond.methodLink RX2 131 yX2_swapFunds ∈ z_T := z_T_in 758 (by decide +kernel) (by decide +kernel)
theorem m_760 : Cond.instanceMethod yX2_swapFunds ∈ z_T := z_T_in 760 (by decide +kernel) (by decide +kernel)
theorem m_761 : Cond.code yX2_swapFunds cX2_swapFunds 4 none ∈ z_T := z_T_in 761 (by decide +kernel) (by decide +kernel)
theorem m_762 : Cond.methodLink RX4 228 yX2_paidTo ∈ z_T := z_T_in 762 (by decide +kernel) (by decide +kernel)
theorem m_763 : Cond.instanceMethod yX2_paidTo ∈ z_T := z_T_in 763 (by decide +kernel) (by decide +kernel)
theorem m_764 : Cond.selects RX2 yX2_paidTo yX2_paidTo ∈ z_T := z_T_in 764 (by decide +kernel) (by decide +kernel)
theorem m_765 : Cond.code yX2_paidTo cX2_paidTo 2 (some .int) ∈ z_T := z_T_in 765 (by decide +kernel) (by decide +kernel)
theorem m_774 : Cond.methodLink RX4 234 yX2_paidInAll ∈ z_T := z_T_in 774 (by decide +kernel) (by decide +kernel)
theorem m_775 : Cond.instanceMethod yX2_paidInAll ∈ z_T := z_T_in 775 (by decide +kernel) (by decide +kernel)
theorem m_776 : Cond.selects RX2 yX2_paidInAll yX2_paidInAll ∈ z_T := z_T_in 776 (by decide +kernel) (by decide +kernel)
theorem m_777 : Cond.code yX2_paidInAll cX2_paidInAll 1 (some .int) ∈ z_T := z_T_in 777 (by decide +kernel) (by decide +kernel)
theorem m_778 : Cond.methodLink RX4 237 yX2_holding ∈ z_T := z_T_in 778 (by decide +kernel) (by decide +kernel)
theorem m_779 : Cond.instanceMethod yX2_holding ∈ z_T := z_T_in 779 (by decide +kernel) (by decide +kernel)
theorem m_780 : Cond.selects RX2 yX2_holding yX2_holding ∈ z_T := z_T_in 780 (by decide +kernel) (by decide +kernel)
theorem m_781 : Cond.code yX2_holding cX2_holding 5 (some .int) ∈ z_T := z_T_in 781 (by decide +kernel) (by decide +kernel)
theorem m_790 : Cond.methodLink RX4 244 yX2_giveBack ∈ z_T := z_T_in 790 (by decide +kernel) (by decide +kernel)
theorem m_791 : Cond.instanceMethod yX2_giveBack ∈ z_T := z_T_in 791 (by decide +kernel) (by decide +kernel)
theorem m_792 : Cond.selects RX2 yX2_giveBack yX2_giveBack ∈ z_T := z_T_in 792 (by decide +kernel) (by decide +kernel)
theorem m_793 : Cond.code yX2_giveBack cX2_giveBack 2 none ∈ z_T := z_T_in 793 (by decide +kernel) (by decide +kernel)
theorem m_794 : Cond.methodLink RX2 149 yX2_paidForShip ∈ z_T := z_T_in 794 (by decide +kernel) (by decide +kernel)
theorem m_796 : Cond.instanceMethod yX2_paidForShip ∈ z_T := z_T_in 796 (by decide +kernel) (by decide +kernel)
theorem m_797 : Cond.code yX2_paidForShip cX2_paidForShip 5 (some .int) ∈ z_T := z_T_in 797 (by decide +kernel) (by decide +kernel)
theorem m_802 : Cond.methodLink RX4 253 yX3_become ∈ z_T := z_T_in 802 (by decide +kernel) (by decide +kernel)
theorem m_803 : Cond.instanceMethod yX3_become ∈ z_T := z_T_in 803 (by decide +kernel) (by decide +kernel)
theorem m_804 : Cond.selects RX3 yX3_become yX3_become ∈ z_T := z_T_in 804 (by decide +kernel) (by decide +kernel)
theorem m_805 : Cond.code yX3_become cX3_become 2 none ∈ z_T := z_T_in 805 (by decide +kernel) (by decide +kernel)
theorem m_819 : Cond.methodLink RX4 257 yX4_holdingWithout ∈ z_T := z_T_in 819 (by decide +kernel) (by decide +kernel)
theorem m_821 : Cond.instanceMethod yX4_holdingWithout ∈ z_T := z_T_in 821 (by decide +kernel) (by decide +kernel)
theorem m_822 : Cond.code yX4_holdingWithout cX4_holdingWithout 6 (some .int) ∈ z_T := z_T_in 822 (by decide +kernel) (by decide +kernel)
theorem m_823 : Cond.methodLink RX4 281 yX3_takeAway ∈ z_T := z_T_in 823 (by decide +kernel) (by decide +kernel)
theorem m_824 : Cond.instanceMethod yX3_takeAway ∈ z_T := z_T_in 824 (by decide +kernel) (by decide +kernel)
theorem m_825 : Cond.selects RX3 yX3_takeAway yX3_takeAway ∈ z_T := z_T_in 825 (by decide +kernel) (by decide +kernel)
theorem m_826 : Cond.code yX3_takeAway cX3_takeAway 2 none ∈ z_T := z_T_in 826 (by decide +kernel) (by decide +kernel)
theorem m_831 : Cond.methodLink RX4 261 yX4_canSailAgain ∈ z_T := z_T_in 831 (by decide +kernel) (by decide +kernel)
theorem m_833 : Cond.instanceMethod yX4_canSailAgain ∈ z_T := z_T_in 833 (by decide +kernel) (by decide +kernel)
theorem m_834 : Cond.code yX4_canSailAgain cX4_canSailAgain 3 (some .boolean) ∈ z_T := z_T_in 834 (by decide +kernel) (by decide +kernel)
theorem m_835 : Cond.methodLink RX4 265 yX4_supposeVoyage ∈ z_T := z_T_in 835 (by decide +kernel) (by decide +kernel)
theorem m_837 : Cond.instanceMethod yX4_supposeVoyage ∈ z_T := z_T_in 837 (by decide +kernel) (by decide +kernel)
theorem m_838 : Cond.code yX4_supposeVoyage cX4_supposeVoyage 7 none ∈ z_T := z_T_in 838 (by decide +kernel) (by decide +kernel)
theorem m_839 : Cond.methodLink RX4 269 yX4_wiseFor ∈ z_T := z_T_in 839 (by decide +kernel) (by decide +kernel)
theorem m_841 : Cond.instanceMethod yX4_wiseFor ∈ z_T := z_T_in 841 (by decide +kernel) (by decide +kernel)
theorem m_842 : Cond.code yX4_wiseFor cX4_wiseFor 4 (some .int) ∈ z_T := z_T_in 842 (by decide +kernel) (by decide +kernel)
theorem m_843 : Cond.methodLink RX4 272 yX4_worthFor ∈ z_T := z_T_in 843 (by decide +kernel) (by decide +kernel)
theorem m_845 : Cond.instanceMethod yX4_worthFor ∈ z_T := z_T_in 845 (by decide +kernel) (by decide +kernel)
theorem m_846 : Cond.code yX4_worthFor cX4_worthFor 3 (some .int) ∈ z_T := z_T_in 846 (by decide +kernel) (by decide +kernel)
theorem m_851 : Cond.methodLink RX4 275 yX4_hangsOn ∈ z_T := z_T_in 851 (by decide +kernel) (by decide +kernel)
theorem m_853 : Cond.instanceMethod yX4_hangsOn ∈ z_T := z_T_in 853 (by decide +kernel) (by decide +kernel)
theorem m_854 : Cond.code yX4_hangsOn cX4_hangsOn 8 (some .int) ∈ z_T := z_T_in 854 (by decide +kernel) (by decide +kernel)
theorem m_855 : Cond.methodLink RX4 289 Lib.Math.abs.name ∈ z_T := z_T_in 855 (by decide +kernel) (by decide +kernel)
theorem m_856 : Cond.static Lib.Math.abs.name ∈ z_T := z_T_in 856 (by decide +kernel) (by decide +kernel)
theorem m_857 : Cond.code Lib.Math.abs.name Lib.Math.abs.code 1 (some .int) ∈ z_T := z_T_in 857 (by decide +kernel) (by decide +kernel)
theorem m_862 : Cond.methodLink RX4 278 yX4_isImage ∈ z_T := z_T_in 862 (by decide +kernel) (by decide +kernel)
theorem m_863 : Cond.static yX4_isImage ∈ z_T := z_T_in 863 (by decide +kernel) (by decide +kernel)
theorem m_864 : Cond.code yX4_isImage cX4_isImage 1 (some .boolean) ∈ z_T := z_T_in 864 (by decide +kernel) (by decide +kernel)
theorem m_875 : Cond.methodLink RX5 126 yX5_bare ∈ z_T := z_T_in 875 (by decide +kernel) (by decide +kernel)
theorem m_877 : Cond.instanceMethod yX5_bare ∈ z_T := z_T_in 877 (by decide +kernel) (by decide +kernel)
theorem m_878 : Cond.code yX5_bare cX5_bare 2 none ∈ z_T := z_T_in 878 (by decide +kernel) (by decide +kernel)
theorem m_879 : Cond.methodLink RX5 129 yX5_keepLaw ∈ z_T := z_T_in 879 (by decide +kernel) (by decide +kernel)
theorem m_881 : Cond.instanceMethod yX5_keepLaw ∈ z_T := z_T_in 881 (by decide +kernel) (by decide +kernel)
theorem m_882 : Cond.code yX5_keepLaw cX5_keepLaw 6 none ∈ z_T := z_T_in 882 (by decide +kernel) (by decide +kernel)
theorem m_883 : Cond.methodLink RX5 148 yX5_findRanks ∈ z_T := z_T_in 883 (by decide +kernel) (by decide +kernel)
theorem m_885 : Cond.instanceMethod yX5_findRanks ∈ z_T := z_T_in 885 (by decide +kernel) (by decide +kernel)
theorem m_886 : Cond.code yX5_findRanks cX5_findRanks 5 none ∈ z_T := z_T_in 886 (by decide +kernel) (by decide +kernel)
theorem m_887 : Cond.methodLink RX5 253 yX5_areAlike ∈ z_T := z_T_in 887 (by decide +kernel) (by decide +kernel)
theorem m_889 : Cond.instanceMethod yX5_areAlike ∈ z_T := z_T_in 889 (by decide +kernel) (by decide +kernel)
theorem m_890 : Cond.code yX5_areAlike cX5_areAlike 4 (some .boolean) ∈ z_T := z_T_in 890 (by decide +kernel) (by decide +kernel)
theorem m_891 : Cond.methodLink RX5 257 yX5_levelRanks ∈ z_T := z_T_in 891 (by decide +kernel) (by decide +kernel)
theorem m_893 : Cond.instanceMethod yX5_levelRanks ∈ z_T := z_T_in 893 (by decide +kernel) (by decide +kernel)
theorem m_894 : Cond.code yX5_levelRanks cX5_levelRanks 4 none ∈ z_T := z_T_in 894 (by decide +kernel) (by decide +kernel)
theorem m_899 : Cond.fieldLink RX5 7 "LastLentModel" "rides" "[I" ∈ z_T := z_T_in 899 (by decide +kernel) (by decide +kernel)
theorem m_900 : Cond.fieldLink RX5 13 "LastLentModel" "sides" "[I" ∈ z_T := z_T_in 900 (by decide +kernel) (by decide +kernel)
theorem m_901 : Cond.fieldLink RX5 16 "LastLentModel" "dies" "[I" ∈ z_T := z_T_in 901 (by decide +kernel) (by decide +kernel)
theorem m_902 : Cond.fieldLink RX5 19 "LastLentModel" "isLeave" "[Z" ∈ z_T := z_T_in 902 (by decide +kernel) (by decide +kernel)
theorem m_903 : Cond.fieldLink RX5 23 "LastLentModel" "steps" "[Z" ∈ z_T := z_T_in 903 (by decide +kernel) (by decide +kernel)
theorem m_904 : Cond.fieldLink RX5 26 "LastLentModel" "rules" "[I" ∈ z_T := z_T_in 904 (by decide +kernel) (by decide +kernel)
theorem m_905 : Cond.fieldLink RX5 29 "LastLentModel" "readRides" "[I" ∈ z_T := z_T_in 905 (by decide +kernel) (by decide +kernel)
theorem m_906 : Cond.fieldLink RX5 32 "LastLentModel" "readSides" "[I" ∈ z_T := z_T_in 906 (by decide +kernel) (by decide +kernel)
theorem m_907 : Cond.fieldLink RX5 35 "LastLentModel" "readDies" "[I" ∈ z_T := z_T_in 907 (by decide +kernel) (by decide +kernel)
theorem m_908 : Cond.fieldLink RX5 38 "LastLentModel" "readLeave" "[Z" ∈ z_T := z_T_in 908 (by decide +kernel) (by decide +kernel)
theorem m_909 : Cond.fieldLink RX5 41 "LastLentModel" "readSteps" "[Z" ∈ z_T := z_T_in 909 (by decide +kernel) (by decide +kernel)
theorem m_910 : Cond.fieldLink RX5 44 "LastLentModel" "readRules" "[I" ∈ z_T := z_T_in 910 (by decide +kernel) (by decide +kernel)
theorem m_911 : Cond.fieldLink RX5 47 "LastLentModel" "text" "[I" ∈ z_T := z_T_in 911 (by decide +kernel) (by decide +kernel)
theorem m_912 : Cond.fieldLink RX5 153 "LastLentModel" "texted" "I" ∈ z_T := z_T_in 912 (by decide +kernel) (by decide +kernel)
theorem m_913 : Cond.fieldLink RX5 50 "LastLentModel" "faultPlace" "I" ∈ z_T := z_T_in 913 (by decide +kernel) (by decide +kernel)
theorem m_914 : Cond.fieldLink RX5 158 "LastLentModel" "at0" "I" ∈ z_T := z_T_in 914 (by decide +kernel) (by decide +kernel)
theorem m_915 : Cond.fieldLink RX5 165 "LastLentModel" "word" "J" ∈ z_T := z_T_in 915 (by decide +kernel) (by decide +kernel)
theorem m_916 : Cond.fieldLink RX5 169 "LastLentModel" "wordEnd" "I" ∈ z_T := z_T_in 916 (by decide +kernel) (by decide +kernel)
theorem m_917 : Cond.fieldLink RX5 200 "LastLentModel" "number" "I" ∈ z_T := z_T_in 917 (by decide +kernel) (by decide +kernel)
theorem m_918 : Cond.fieldLink RX5 209 "LastLentModel" "kindRead" "I" ∈ z_T := z_T_in 918 (by decide +kernel) (by decide +kernel)
theorem m_919 : Cond.fieldLink RX5 212 "LastLentModel" "kindAt" "I" ∈ z_T := z_T_in 919 (by decide +kernel) (by decide +kernel)
theorem m_920 : Cond.fieldLink RX5 224 "LastLentModel" "onceTold" "I" ∈ z_T := z_T_in 920 (by decide +kernel) (by decide +kernel)
theorem m_921 : Cond.fieldLink RX5 54 "LastLentModel" "single" "[Z" ∈ z_T := z_T_in 921 (by decide +kernel) (by decide +kernel)
theorem m_922 : Cond.fieldLink RX5 57 "LastLentModel" "ranks" "[I" ∈ z_T := z_T_in 922 (by decide +kernel) (by decide +kernel)
theorem m_923 : Cond.fieldLink RX5 274 "LastLentModel" "voyages" "I" ∈ z_T := z_T_in 923 (by decide +kernel) (by decide +kernel)
theorem m_924 : Cond.fieldLink RX5 60 "LastLentModel" "begins" "[I" ∈ z_T := z_T_in 924 (by decide +kernel) (by decide +kernel)
theorem m_925 : Cond.fieldLink RX5 63 "LastLentModel" "endsOn" "[I" ∈ z_T := z_T_in 925 (by decide +kernel) (by decide +kernel)
theorem m_926 : Cond.fieldLink RX5 268 "LastLentModel" "claims" "I" ∈ z_T := z_T_in 926 (by decide +kernel) (by decide +kernel)
theorem m_927 : Cond.fieldLink RX5 66 "LastLentModel" "kinds" "[I" ∈ z_T := z_T_in 927 (by decide +kernel) (by decide +kernel)
theorem m_928 : Cond.fieldLink RX5 69 "LastLentModel" "holders" "[I" ∈ z_T := z_T_in 928 (by decide +kernel) (by decide +kernel)
theorem m_929 : Cond.fieldLink RX5 72 "LastLentModel" "days" "[I" ∈ z_T := z_T_in 929 (by decide +kernel) (by decide +kernel)
theorem m_930 : Cond.fieldLink RX5 75 "LastLentModel" "amounts" "[I" ∈ z_T := z_T_in 930 (by decide +kernel) (by decide +kernel)
theorem m_931 : Cond.fieldLink RX5 78 "LastLentModel" "hasLeave" "[Z" ∈ z_T := z_T_in 931 (by decide +kernel) (by decide +kernel)
theorem m_932 : Cond.fieldLink RX5 81 "LastLentModel" "cargoes" "[I" ∈ z_T := z_T_in 932 (by decide +kernel) (by decide +kernel)
theorem m_933 : Cond.fieldLink RX5 84 "LastLentModel" "asked" "[I" ∈ z_T := z_T_in 933 (by decide +kernel) (by decide +kernel)
theorem m_934 : Cond.fieldLink RX5 87 "LastLentModel" "isGone" "[Z" ∈ z_T := z_T_in 934 (by decide +kernel) (by decide +kernel)
theorem m_935 : Cond.fieldLink RX5 90 "LastLentModel" "sums" "[I" ∈ z_T := z_T_in 935 (by decide +kernel) (by decide +kernel)
theorem m_936 : Cond.fieldLink RX5 93 "LastLentModel" "owners" "[I" ∈ z_T := z_T_in 936 (by decide +kernel) (by decide +kernel)
theorem m_937 : Cond.fieldLink RX5 96 "LastLentModel" "paids" "[I" ∈ z_T := z_T_in 937 (by decide +kernel) (by decide +kernel)
theorem m_938 : Cond.fieldLink RX5 99 "LastLentModel" "lefts" "[I" ∈ z_T := z_T_in 938 (by decide +kernel) (by decide +kernel)
theorem m_939 : Cond.fieldLink RX5 102 "LastLentModel" "orders" "[I" ∈ z_T := z_T_in 939 (by decide +kernel) (by decide +kernel)
theorem m_940 : Cond.fieldLink RX5 105 "LastLentModel" "lents" "[I" ∈ z_T := z_T_in 940 (by decide +kernel) (by decide +kernel)
theorem m_941 : Cond.fieldLink RX5 108 "LastLentModel" "inStep" "[Z" ∈ z_T := z_T_in 941 (by decide +kernel) (by decide +kernel)
theorem m_942 : Cond.fieldLink RX5 111 "LastLentModel" "bestOrder" "[I" ∈ z_T := z_T_in 942 (by decide +kernel) (by decide +kernel)
theorem m_943 : Cond.fieldLink RX5 114 "LastLentModel" "hadNow" "[I" ∈ z_T := z_T_in 943 (by decide +kernel) (by decide +kernel)
theorem m_944 : Cond.fieldLink RX5 117 "LastLentModel" "paidNow" "[I" ∈ z_T := z_T_in 944 (by decide +kernel) (by decide +kernel)
theorem m_945 : Cond.fieldLink RX5 120 "LastLentModel" "images" "[I" ∈ z_T := z_T_in 945 (by decide +kernel) (by decide +kernel)
theorem m_946 : Cond.fieldLink RX5 123 "LastLentModel" "isKept" "[Z" ∈ z_T := z_T_in 946 (by decide +kernel) (by decide +kernel)
theorem m_1048 : Cond.constantLong RX5 151 (8) ∈ z_T := z_T_in 1048 (by decide +kernel) (by decide +kernel)
theorem m_1049 : Cond.methodLink RX5 138 yX5_in ∈ z_T := z_T_in 1049 (by decide +kernel) (by decide +kernel)
theorem m_1050 : Cond.static yX5_in ∈ z_T := z_T_in 1050 (by decide +kernel) (by decide +kernel)
theorem m_1051 : Cond.code yX5_in cX5_in 6 (some .boolean) ∈ z_T := z_T_in 1051 (by decide +kernel) (by decide +kernel)
theorem m_1052 : Cond.constantLong RX5 156 (255) ∈ z_T := z_T_in 1052 (by decide +kernel) (by decide +kernel)
theorem m_1057 : Cond.methodLink RX5 246 yX5_isLand ∈ z_T := z_T_in 1057 (by decide +kernel) (by decide +kernel)
theorem m_1058 : Cond.static yX5_isLand ∈ z_T := z_T_in 1058 (by decide +kernel) (by decide +kernel)
theorem m_1059 : Cond.code yX5_isLand cX5_isLand 1 (some .boolean) ∈ z_T := z_T_in 1059 (by decide +kernel) (by decide +kernel)
theorem m_1060 : Cond.constantLong RX5 136 (3) ∈ z_T := z_T_in 1060 (by decide +kernel) (by decide +kernel)
theorem m_1061 : Cond.methodLink RX5 161 yX5_here ∈ z_T := z_T_in 1061 (by decide +kernel) (by decide +kernel)
theorem m_1063 : Cond.instanceMethod yX5_here ∈ z_T := z_T_in 1063 (by decide +kernel) (by decide +kernel)
theorem m_1064 : Cond.code yX5_here cX5_here 1 (some .int) ∈ z_T := z_T_in 1064 (by decide +kernel) (by decide +kernel)
theorem m_1065 : Cond.methodLink RX5 250 yX5_takeClause ∈ z_T := z_T_in 1065 (by decide +kernel) (by decide +kernel)
theorem m_1067 : Cond.instanceMethod yX5_takeClause ∈ z_T := z_T_in 1067 (by decide +kernel) (by decide +kernel)
theorem m_1068 : Cond.code yX5_takeClause cX5_takeClause 5 (some .int) ∈ z_T := z_T_in 1068 (by decide +kernel) (by decide +kernel)
theorem m_1069 : Cond.methodLink RX5 203 yX5_readWord ∈ z_T := z_T_in 1069 (by decide +kernel) (by decide +kernel)
theorem m_1071 : Cond.instanceMethod yX5_readWord ∈ z_T := z_T_in 1071 (by decide +kernel) (by decide +kernel)
theorem m_1072 : Cond.code yX5_readWord cX5_readWord 2 none ∈ z_T := z_T_in 1072 (by decide +kernel) (by decide +kernel)
theorem m_1073 : Cond.constantLong RX5 172 (97) ∈ z_T := z_T_in 1073 (by decide +kernel) (by decide +kernel)
theorem m_1074 : Cond.constantLong RX5 174 (122) ∈ z_T := z_T_in 1074 (by decide +kernel) (by decide +kernel)
theorem m_1075 : Cond.constantLong RX5 176 (1000000000000) ∈ z_T := z_T_in 1075 (by decide +kernel) (by decide +kernel)
theorem m_1076 : Cond.constantLong RX5 178 (2000000000000) ∈ z_T := z_T_in 1076 (by decide +kernel) (by decide +kernel)
theorem m_1077 : Cond.constantLong RX5 180 (27) ∈ z_T := z_T_in 1077 (by decide +kernel) (by decide +kernel)
theorem m_1078 : Cond.constantLong RX5 182 (96) ∈ z_T := z_T_in 1078 (by decide +kernel) (by decide +kernel)
theorem m_1079 : Cond.methodLink RX5 230 yX5_clauseOf ∈ z_T := z_T_in 1079 (by decide +kernel) (by decide +kernel)
theorem m_1081 : Cond.instanceMethod yX5_clauseOf ∈ z_T := z_T_in 1081 (by decide +kernel) (by decide +kernel)
theorem m_1082 : Cond.code yX5_clauseOf cX5_clauseOf 7 (some .int) ∈ z_T := z_T_in 1082 (by decide +kernel) (by decide +kernel)
theorem m_1083 : Cond.methodLink RX5 184 yX5_code ∈ z_T := z_T_in 1083 (by decide +kernel) (by decide +kernel)
theorem m_1084 : Cond.static yX5_code ∈ z_T := z_T_in 1084 (by decide +kernel) (by decide +kernel)
theorem m_1085 : Cond.code yX5_code cX5_code 4 (some .long) ∈ z_T := z_T_in 1085 (by decide +kernel) (by decide +kernel)
theorem m_1086 : Cond.methodLink RX5 188 yX5_longer ∈ z_T := z_T_in 1086 (by decide +kernel) (by decide +kernel)
theorem m_1087 : Cond.static yX5_longer ∈ z_T := z_T_in 1087 (by decide +kernel) (by decide +kernel)
theorem m_1088 : Cond.code yX5_longer cX5_longer 3 (some .long) ∈ z_T := z_T_in 1088 (by decide +kernel) (by decide +kernel)
theorem m_1089 : Cond.methodLink RX5 196 yX5_fails ∈ z_T := z_T_in 1089 (by decide +kernel) (by decide +kernel)
theorem m_1091 : Cond.instanceMethod yX5_fails ∈ z_T := z_T_in 1091 (by decide +kernel) (by decide +kernel)
theorem m_1092 : Cond.code yX5_fails cX5_fails 3 (some .int) ∈ z_T := z_T_in 1092 (by decide +kernel) (by decide +kernel)
theorem m_1093 : Cond.methodLink RX5 233 yX5_takeRides ∈ z_T := z_T_in 1093 (by decide +kernel) (by decide +kernel)
theorem m_1095 : Cond.instanceMethod yX5_takeRides ∈ z_T := z_T_in 1095 (by decide +kernel) (by decide +kernel)
theorem m_1096 : Cond.code yX5_takeRides cX5_takeRides 5 (some .int) ∈ z_T := z_T_in 1096 (by decide +kernel) (by decide +kernel)
theorem m_1097 : Cond.methodLink RX5 215 yX5_takeKind ∈ z_T := z_T_in 1097 (by decide +kernel) (by decide +kernel)
theorem m_1099 : Cond.instanceMethod yX5_takeKind ∈ z_T := z_T_in 1099 (by decide +kernel) (by decide +kernel)
theorem m_1100 : Cond.code yX5_takeKind cX5_takeKind 1 (some .int) ∈ z_T := z_T_in 1100 (by decide +kernel) (by decide +kernel)
theorem m_1101 : Cond.methodLink RX5 206 yX5_kindOf ∈ z_T := z_T_in 1101 (by decide +kernel) (by decide +kernel)
theorem m_1103 : Cond.instanceMethod yX5_kindOf ∈ z_T := z_T_in 1103 (by decide +kernel) (by decide +kernel)
theorem m_1104 : Cond.code yX5_kindOf cX5_kindOf 5 (some .int) ∈ z_T := z_T_in 1104 (by decide +kernel) (by decide +kernel)
theorem m_1105 : Cond.methodLink RX5 218 yX5_fundOf ∈ z_T := z_T_in 1105 (by decide +kernel) (by decide +kernel)
theorem m_1107 : Cond.instanceMethod yX5_fundOf ∈ z_T := z_T_in 1107 (by decide +kernel) (by decide +kernel)
theorem m_1108 : Cond.code yX5_fundOf cX5_fundOf 3 (some .int) ∈ z_T := z_T_in 1108 (by decide +kernel) (by decide +kernel)
theorem m_1109 : Cond.methodLink RX5 236 yX5_takeAhead ∈ z_T := z_T_in 1109 (by decide +kernel) (by decide +kernel)
theorem m_1111 : Cond.instanceMethod yX5_takeAhead ∈ z_T := z_T_in 1111 (by decide +kernel) (by decide +kernel)
theorem m_1112 : Cond.code yX5_takeAhead cX5_takeAhead 4 (some .int) ∈ z_T := z_T_in 1112 (by decide +kernel) (by decide +kernel)
theorem m_1113 : Cond.methodLink RX5 240 yX5_takeOnce ∈ z_T := z_T_in 1113 (by decide +kernel) (by decide +kernel)
theorem m_1115 : Cond.instanceMethod yX5_takeOnce ∈ z_T := z_T_in 1115 (by decide +kernel) (by decide +kernel)
theorem m_1116 : Cond.code yX5_takeOnce cX5_takeOnce 4 (some .int) ∈ z_T := z_T_in 1116 (by decide +kernel) (by decide +kernel)
theorem m_1117 : Cond.methodLink RX5 221 yX5_takeNumber ∈ z_T := z_T_in 1117 (by decide +kernel) (by decide +kernel)
theorem m_1119 : Cond.instanceMethod yX5_takeNumber ∈ z_T := z_T_in 1119 (by decide +kernel) (by decide +kernel)
theorem m_1120 : Cond.code yX5_takeNumber cX5_takeNumber 5 (some .int) ∈ z_T := z_T_in 1120 (by decide +kernel) (by decide +kernel)
theorem m_1121 : Cond.constantLong RX5 192 (48) ∈ z_T := z_T_in 1121 (by decide +kernel) (by decide +kernel)
theorem m_1122 : Cond.constantLong RX5 194 (57) ∈ z_T := z_T_in 1122 (by decide +kernel) (by decide +kernel)
theorem m_1123 : Cond.methodLink RX5 227 yX5_withinOf ∈ z_T := z_T_in 1123 (by decide +kernel) (by decide +kernel)
theorem m_1125 : Cond.instanceMethod yX5_withinOf ∈ z_T := z_T_in 1125 (by decide +kernel) (by decide +kernel)
theorem m_1126 : Cond.code yX5_withinOf cX5_withinOf 3 (some .int) ∈ z_T := z_T_in 1126 (by decide +kernel) (by decide +kernel)
theorem m_1127 : Cond.methodLink RX5 243 yX5_takeOfKind ∈ z_T := z_T_in 1127 (by decide +kernel) (by decide +kernel)
theorem m_1129 : Cond.instanceMethod yX5_takeOfKind ∈ z_T := z_T_in 1129 (by decide +kernel) (by decide +kernel)
theorem m_1130 : Cond.code yX5_takeOfKind cX5_takeOfKind 5 (some .int) ∈ z_T := z_T_in 1130 (by decide +kernel) (by decide +kernel)
theorem m_1139 : Cond.methodLink RX5 260 yX5_isKind ∈ z_T := z_T_in 1139 (by decide +kernel) (by decide +kernel)
theorem m_1140 : Cond.static yX5_isKind ∈ z_T := z_T_in 1140 (by decide +kernel) (by decide +kernel)
theorem m_1141 : Cond.code yX5_isKind cX5_isKind 1 (some .boolean) ∈ z_T := z_T_in 1141 (by decide +kernel) (by decide +kernel)
theorem m_1142 : Cond.constantLong RX5 142 (7) ∈ z_T := z_T_in 1142 (by decide +kernel) (by decide +kernel)
theorem m_1143 : Cond.methodLink RX5 263 yX5_ring ∈ z_T := z_T_in 1143 (by decide +kernel) (by decide +kernel)
theorem m_1145 : Cond.instanceMethod yX5_ring ∈ z_T := z_T_in 1145 (by decide +kernel) (by decide +kernel)
theorem m_1146 : Cond.code yX5_ring cX5_ring 5 (some .int) ∈ z_T := z_T_in 1146 (by decide +kernel) (by decide +kernel)
theorem m_1151 : Cond.constantLong RX5 266 (4) ∈ z_T := z_T_in 1151 (by decide +kernel) (by decide +kernel)
theorem m_1160 : Cond.methodLink RX5 271 yX5_isDay ∈ z_T := z_T_in 1160 (by decide +kernel) (by decide +kernel)
theorem m_1161 : Cond.static yX5_isDay ∈ z_T := z_T_in 1161 (by decide +kernel) (by decide +kernel)
theorem m_1162 : Cond.code yX5_isDay cX5_isDay 1 (some .boolean) ∈ z_T := z_T_in 1162 (by decide +kernel) (by decide +kernel)
theorem m_1163 : Cond.constantLong RX5 146 (999) ∈ z_T := z_T_in 1163 (by decide +kernel) (by decide +kernel)
theorem m_1168 : Cond.methodLink RX5 277 yX5_isHolder ∈ z_T := z_T_in 1168 (by decide +kernel) (by decide +kernel)
theorem m_1169 : Cond.static yX5_isHolder ∈ z_T := z_T_in 1169 (by decide +kernel) (by decide +kernel)
theorem m_1170 : Cond.code yX5_isHolder cX5_isHolder 1 (some .boolean) ∈ z_T := z_T_in 1170 (by decide +kernel) (by decide +kernel)
theorem m_1171 : Cond.constantLong RX5 144 (5) ∈ z_T := z_T_in 1171 (by decide +kernel) (by decide +kernel)
theorem m_1172 : Cond.methodLink RX5 280 yX5_putClaim ∈ z_T := z_T_in 1172 (by decide +kernel) (by decide +kernel)
theorem m_1174 : Cond.instanceMethod yX5_putClaim ∈ z_T := z_T_in 1174 (by decide +kernel) (by decide +kernel)
theorem m_1175 : Cond.code yX5_putClaim cX5_putClaim 7 none ∈ z_T := z_T_in 1175 (by decide +kernel) (by decide +kernel)
theorem m_1180 : Cond.methodLink RX5 284 yX5_isClaim ∈ z_T := z_T_in 1180 (by decide +kernel) (by decide +kernel)
theorem m_1182 : Cond.instanceMethod yX5_isClaim ∈ z_T := z_T_in 1182 (by decide +kernel) (by decide +kernel)
theorem m_1183 : Cond.code yX5_isClaim cX5_isClaim 2 (some .boolean) ∈ z_T := z_T_in 1183 (by decide +kernel) (by decide +kernel)
theorem m_1184 : Cond.constantLong RX5 287 (-1) ∈ z_T := z_T_in 1184 (by decide +kernel) (by decide +kernel)
theorem m_1189 : Cond.methodLink RX5 289 yX5_isFund ∈ z_T := z_T_in 1189 (by decide +kernel) (by decide +kernel)
theorem m_1190 : Cond.static yX5_isFund ∈ z_T := z_T_in 1190 (by decide +kernel) (by decide +kernel)
theorem m_1191 : Cond.code yX5_isFund cX5_isFund 1 (some .boolean) ∈ z_T := z_T_in 1191 (by decide +kernel) (by decide +kernel)
theorem m_1192 : Cond.constantLong RX5 292 (9999) ∈ z_T := z_T_in 1192 (by decide +kernel) (by decide +kernel)
theorem m_1197 : Cond.methodLink RX5 296 yX5_isCargo ∈ z_T := z_T_in 1197 (by decide +kernel) (by decide +kernel)
theorem m_1198 : Cond.static yX5_isCargo ∈ z_T := z_T_in 1198 (by decide +kernel) (by decide +kernel)
theorem m_1199 : Cond.code yX5_isCargo cX5_isCargo 1 (some .boolean) ∈ z_T := z_T_in 1199 (by decide +kernel) (by decide +kernel)
theorem m_1200 : Cond.constantLong RX5 294 (2) ∈ z_T := z_T_in 1200 (by decide +kernel) (by decide +kernel)
theorem m_1209 : Cond.methodLink RX5 299 yX5_voyageOf ∈ z_T := z_T_in 1209 (by decide +kernel) (by decide +kernel)
theorem m_1211 : Cond.instanceMethod yX5_voyageOf ∈ z_T := z_T_in 1211 (by decide +kernel) (by decide +kernel)
theorem m_1212 : Cond.code yX5_voyageOf cX5_voyageOf 4 (some .int) ∈ z_T := z_T_in 1212 (by decide +kernel) (by decide +kernel)
theorem m_1221 : Cond.methodLink RX5 302 yX5_why ∈ z_T := z_T_in 1221 (by decide +kernel) (by decide +kernel)
theorem m_1223 : Cond.instanceMethod yX5_why ∈ z_T := z_T_in 1223 (by decide +kernel) (by decide +kernel)
theorem m_1224 : Cond.code yX5_why cX5_why 6 (some .int) ∈ z_T := z_T_in 1224 (by decide +kernel) (by decide +kernel)
theorem m_1233 : Cond.methodLink RX5 306 yX5_order2 ∈ z_T := z_T_in 1233 (by decide +kernel) (by decide +kernel)
theorem m_1235 : Cond.instanceMethod yX5_order2 ∈ z_T := z_T_in 1235 (by decide +kernel) (by decide +kernel)
theorem m_1236 : Cond.code yX5_order2 cX5_order2 10 (some .int) ∈ z_T := z_T_in 1236 (by decide +kernel) (by decide +kernel)
theorem m_1241 : Cond.methodLink RX5 312 yX5_isThere ∈ z_T := z_T_in 1241 (by decide +kernel) (by decide +kernel)
theorem m_1243 : Cond.instanceMethod yX5_isThere ∈ z_T := z_T_in 1243 (by decide +kernel) (by decide +kernel)
theorem m_1244 : Cond.code yX5_isThere cX5_isThere 5 (some .boolean) ∈ z_T := z_T_in 1244 (by decide +kernel) (by decide +kernel)
theorem m_1245 : Cond.methodLink RX5 309 yX5_isOn ∈ z_T := z_T_in 1245 (by decide +kernel) (by decide +kernel)
theorem m_1247 : Cond.instanceMethod yX5_isOn ∈ z_T := z_T_in 1247 (by decide +kernel) (by decide +kernel)
theorem m_1248 : Cond.code yX5_isOn cX5_isOn 5 (some .boolean) ∈ z_T := z_T_in 1248 (by decide +kernel) (by decide +kernel)
theorem m_1253 : Cond.methodLink RX5 336 yX5_isGood ∈ z_T := z_T_in 1253 (by decide +kernel) (by decide +kernel)
theorem m_1254 : Cond.static yX5_isGood ∈ z_T := z_T_in 1254 (by decide +kernel) (by decide +kernel)
theorem m_1255 : Cond.code yX5_isGood cX5_isGood 2 (some .boolean) ∈ z_T := z_T_in 1255 (by decide +kernel) (by decide +kernel)
theorem m_1256 : Cond.methodLink RX5 340 yX5_payOut ∈ z_T := z_T_in 1256 (by decide +kernel) (by decide +kernel)
theorem m_1258 : Cond.instanceMethod yX5_payOut ∈ z_T := z_T_in 1258 (by decide +kernel) (by decide +kernel)
theorem m_1259 : Cond.code yX5_payOut cX5_payOut 10 none ∈ z_T := z_T_in 1259 (by decide +kernel) (by decide +kernel)
theorem m_1260 : Cond.methodLink RX5 333 yX5_payAll ∈ z_T := z_T_in 1260 (by decide +kernel) (by decide +kernel)
theorem m_1262 : Cond.instanceMethod yX5_payAll ∈ z_T := z_T_in 1262 (by decide +kernel) (by decide +kernel)
theorem m_1263 : Cond.code yX5_payAll cX5_payAll 7 (some .int) ∈ z_T := z_T_in 1263 (by decide +kernel) (by decide +kernel)
theorem m_1264 : Cond.methodLink RX5 326 yX5_findStep ∈ z_T := z_T_in 1264 (by decide +kernel) (by decide +kernel)
theorem m_1266 : Cond.instanceMethod yX5_findStep ∈ z_T := z_T_in 1266 (by decide +kernel) (by decide +kernel)
theorem m_1267 : Cond.code yX5_findStep cX5_findStep 7 (some .int) ∈ z_T := z_T_in 1267 (by decide +kernel) (by decide +kernel)
theorem m_1268 : Cond.methodLink RX5 319 yX5_isWanting ∈ z_T := z_T_in 1268 (by decide +kernel) (by decide +kernel)
theorem m_1270 : Cond.instanceMethod yX5_isWanting ∈ z_T := z_T_in 1270 (by decide +kernel) (by decide +kernel)
theorem m_1271 : Cond.code yX5_isWanting cX5_isWanting 5 (some .boolean) ∈ z_T := z_T_in 1271 (by decide +kernel) (by decide +kernel)
theorem m_1272 : Cond.methodLink RX5 316 yX5_wants ∈ z_T := z_T_in 1272 (by decide +kernel) (by decide +kernel)
theorem m_1274 : Cond.instanceMethod yX5_wants ∈ z_T := z_T_in 1274 (by decide +kernel) (by decide +kernel)
theorem m_1275 : Cond.code yX5_wants cX5_wants 2 (some .int) ∈ z_T := z_T_in 1275 (by decide +kernel) (by decide +kernel)
theorem m_1276 : Cond.methodLink RX5 329 yX5_payStep ∈ z_T := z_T_in 1276 (by decide +kernel) (by decide +kernel)
theorem m_1278 : Cond.instanceMethod yX5_payStep ∈ z_T := z_T_in 1278 (by decide +kernel) (by decide +kernel)
theorem m_1279 : Cond.code yX5_payStep cX5_payStep 8 none ∈ z_T := z_T_in 1279 (by decide +kernel) (by decide +kernel)
theorem m_1280 : Cond.methodLink RX5 322 yX5_pay ∈ z_T := z_T_in 1280 (by decide +kernel) (by decide +kernel)
theorem m_1282 : Cond.instanceMethod yX5_pay ∈ z_T := z_T_in 1282 (by decide +kernel) (by decide +kernel)
theorem m_1283 : Cond.code yX5_pay cX5_pay 5 none ∈ z_T := z_T_in 1283 (by decide +kernel) (by decide +kernel)
theorem m_1292 : Cond.methodLink RX5 343 yX5_having ∈ z_T := z_T_in 1292 (by decide +kernel) (by decide +kernel)
theorem m_1294 : Cond.instanceMethod yX5_having ∈ z_T := z_T_in 1294 (by decide +kernel) (by decide +kernel)
theorem m_1295 : Cond.code yX5_having cX5_having 4 (some .int) ∈ z_T := z_T_in 1295 (by decide +kernel) (by decide +kernel)
theorem m_1316 : Cond.constantLong RX5 346 (200) ∈ z_T := z_T_in 1316 (by decide +kernel) (by decide +kernel)
theorem m_1325 : Cond.constantLong RX5 348 (100) ∈ z_T := z_T_in 1325 (by decide +kernel) (by decide +kernel)
theorem m_1330 : Cond.methodLink RX5 350 yX5_hanging ∈ z_T := z_T_in 1330 (by decide +kernel) (by decide +kernel)
theorem m_1332 : Cond.instanceMethod yX5_hanging ∈ z_T := z_T_in 1332 (by decide +kernel) (by decide +kernel)
theorem m_1333 : Cond.code yX5_hanging cX5_hanging 12 (some .int) ∈ z_T := z_T_in 1333 (by decide +kernel) (by decide +kernel)
theorem m_1338 : Cond.methodLink RX5 354 yX5_isImage ∈ z_T := z_T_in 1338 (by decide +kernel) (by decide +kernel)
theorem m_1339 : Cond.static yX5_isImage ∈ z_T := z_T_in 1339 (by decide +kernel) (by decide +kernel)
theorem m_1340 : Cond.code yX5_isImage cX5_isImage 1 (some .boolean) ∈ z_T := z_T_in 1340 (by decide +kernel) (by decide +kernel)
theorem m_1346 : Cond.fieldLink RJ0 9 "java/lang/String" "value" "[B" ∈ z_T := z_T_in 1346 (by decide +kernel) (by decide +kernel)
theorem m_1347 : Cond.fieldLink RJ0 15 "java/lang/String" "coder" "B" ∈ z_T := z_T_in 1347 (by decide +kernel) (by decide +kernel)
theorem fl_X0_27 : z_fl RX0 27 0 4 := ⟨RX0, TX0, 13, rfl, by decide, iX0, m_287⟩
theorem fl_X0_31 : z_fl RX0 31 0 5 := ⟨RX0, TX0, 13, rfl, by decide, iX0, m_290⟩
theorem fl_X0_34 : z_fl RX0 34 0 6 := ⟨RX0, TX0, 13, rfl, by decide, iX0, m_293⟩
theorem fl_X0_37 : z_fl RX0 37 0 7 := ⟨RX0, TX0, 13, rfl, by decide, iX0, m_297⟩
theorem fl_X0_40 : z_fl RX0 40 0 8 := ⟨RX0, TX0, 13, rfl, by decide, iX0, m_299⟩
theorem fl_X0_43 : z_fl RX0 43 0 9 := ⟨RX0, TX0, 13, rfl, by decide, iX0, m_302⟩
theorem fl_X0_46 : z_fl RX0 46 0 10 := ⟨RX0, TX0, 13, rfl, by decide, iX0, m_306⟩
theorem fl_X0_49 : z_fl RX0 49 0 11 := ⟨RX0, TX0, 13, rfl, by decide, iX0, m_309⟩
theorem fl_X0_53 : z_fl RX0 53 0 12 := ⟨RX0, TX0, 13, rfl, by decide, iX0, m_312⟩
theorem fl_X0_9 : z_fl RX0 9 0 0 := ⟨RX0, TX0, 13, rfl, by decide, iX0, m_275⟩
theorem fl_X0_15 : z_fl RX0 15 0 1 := ⟨RX0, TX0, 13, rfl, by decide, iX0, m_278⟩
theorem fl_X0_18 : z_fl RX0 18 0 2 := ⟨RX0, TX0, 13, rfl, by decide, iX0, m_282⟩
theorem fl_X0_21 : z_fl RX0 21 0 3 := ⟨RX0, TX0, 13, rfl, by decide, iX0, m_285⟩
theorem fl_X4_18 : z_fl RX4 18 4 1 := ⟨RX4, TX4, 10, rfl, by decide, iX4, m_344⟩
theorem fl_X4_59 : z_fl RX4 59 1 1 := ⟨RX1, TX1, 9, rfl, by decide, iX1, m_109⟩
theorem fl_X1_22 : z_fl RX1 22 1 1 := ⟨RX1, TX1, 9, rfl, by decide, iX1, m_108⟩
theorem fl_X1_9 : z_fl RX1 9 1 0 := ⟨RX1, TX1, 9, rfl, by decide, iX1, m_107⟩
theorem fl_X4_55 : z_fl RX4 55 4 9 := ⟨RX4, TX4, 10, rfl, by decide, iX4, m_352⟩
theorem fl_X1_15 : z_fl RX1 15 1 2 := ⟨RX1, TX1, 9, rfl, by decide, iX1, m_110⟩
theorem fl_X1_19 : z_fl RX1 19 1 3 := ⟨RX1, TX1, 9, rfl, by decide, iX1, m_112⟩
theorem fl_X1_30 : z_fl RX1 30 1 6 := ⟨RX1, TX1, 9, rfl, by decide, iX1, m_116⟩
theorem fl_X1_33 : z_fl RX1 33 1 7 := ⟨RX1, TX1, 9, rfl, by decide, iX1, m_117⟩
theorem fl_X1_36 : z_fl RX1 36 1 8 := ⟨RX1, TX1, 9, rfl, by decide, iX1, m_118⟩
theorem fl_X1_154 : z_fl RX1 154 1 5 := ⟨RX1, TX1, 9, rfl, by decide, iX1, m_115⟩
theorem fl_X1_42 : z_fl RX1 42 1 4 := ⟨RX1, TX1, 9, rfl, by decide, iX1, m_114⟩
theorem fl_X1_73 : z_fl RX1 73 0 8 := ⟨RX0, TX0, 13, rfl, by decide, iX0, m_300⟩
theorem fl_X1_112 : z_fl RX1 112 0 0 := ⟨RX0, TX0, 13, rfl, by decide, iX0, m_277⟩
theorem fl_X1_125 : z_fl RX1 125 0 2 := ⟨RX0, TX0, 13, rfl, by decide, iX0, m_284⟩
theorem fl_X1_128 : z_fl RX1 128 0 4 := ⟨RX0, TX0, 13, rfl, by decide, iX0, m_289⟩
theorem fl_X1_131 : z_fl RX1 131 0 5 := ⟨RX0, TX0, 13, rfl, by decide, iX0, m_292⟩
theorem fl_X1_89 : z_fl RX1 89 0 11 := ⟨RX0, TX0, 13, rfl, by decide, iX0, m_311⟩
theorem fl_X1_136 : z_fl RX1 136 0 9 := ⟨RX0, TX0, 13, rfl, by decide, iX0, m_304⟩
theorem fl_X1_145 : z_fl RX1 145 0 1 := ⟨RX0, TX0, 13, rfl, by decide, iX0, m_281⟩
theorem fl_X1_148 : z_fl RX1 148 0 6 := ⟨RX0, TX0, 13, rfl, by decide, iX0, m_296⟩
theorem fl_X1_102 : z_fl RX1 102 0 12 := ⟨RX0, TX0, 13, rfl, by decide, iX0, m_314⟩
theorem fl_X1_151 : z_fl RX1 151 0 10 := ⟨RX0, TX0, 13, rfl, by decide, iX0, m_308⟩
theorem fl_X4_75 : z_fl RX4 75 1 2 := ⟨RX1, TX1, 9, rfl, by decide, iX1, m_111⟩
theorem fl_X4_11 : z_fl RX4 11 4 0 := ⟨RX4, TX4, 10, rfl, by decide, iX4, m_343⟩
theorem fl_X4_81 : z_fl RX4 81 1 3 := ⟨RX1, TX1, 9, rfl, by decide, iX1, m_113⟩
theorem fl_X4_87 : z_fl RX4 87 0 3 := ⟨RX0, TX0, 13, rfl, by decide, iX0, m_286⟩
theorem fl_X4_90 : z_fl RX4 90 0 0 := ⟨RX0, TX0, 13, rfl, by decide, iX0, m_276⟩
theorem fl_X4_93 : z_fl RX4 93 0 4 := ⟨RX0, TX0, 13, rfl, by decide, iX0, m_288⟩
theorem fl_X4_100 : z_fl RX4 100 0 5 := ⟨RX0, TX0, 13, rfl, by decide, iX0, m_291⟩
theorem fl_X4_103 : z_fl RX4 103 0 1 := ⟨RX0, TX0, 13, rfl, by decide, iX0, m_279⟩
theorem fl_X4_106 : z_fl RX4 106 0 6 := ⟨RX0, TX0, 13, rfl, by decide, iX0, m_294⟩
theorem fl_X4_109 : z_fl RX4 109 0 7 := ⟨RX0, TX0, 13, rfl, by decide, iX0, m_298⟩
theorem fl_X4_112 : z_fl RX4 112 0 11 := ⟨RX0, TX0, 13, rfl, by decide, iX0, m_310⟩
theorem fl_X4_116 : z_fl RX4 116 0 9 := ⟨RX0, TX0, 13, rfl, by decide, iX0, m_303⟩
theorem fl_X4_119 : z_fl RX4 119 0 12 := ⟨RX0, TX0, 13, rfl, by decide, iX0, m_313⟩
theorem fl_X4_122 : z_fl RX4 122 0 10 := ⟨RX0, TX0, 13, rfl, by decide, iX0, m_307⟩
theorem fl_X4_125 : z_fl RX4 125 0 8 := ⟨RX0, TX0, 13, rfl, by decide, iX0, m_301⟩
theorem fl_X4_128 : z_fl RX4 128 0 2 := ⟨RX0, TX0, 13, rfl, by decide, iX0, m_283⟩
theorem fl_X4_25 : z_fl RX4 25 4 2 := ⟨RX4, TX4, 10, rfl, by decide, iX4, m_345⟩
theorem fl_X3_42 : z_fl RX3 42 3 0 := ⟨RX3, TX3, 13, rfl, by decide, iX3, m_145⟩
theorem fl_X3_15 : z_fl RX3 15 3 4 := ⟨RX3, TX3, 13, rfl, by decide, iX3, m_153⟩
theorem fl_X3_9 : z_fl RX3 9 3 3 := ⟨RX3, TX3, 13, rfl, by decide, iX3, m_152⟩
theorem fl_X3_46 : z_fl RX3 46 3 1 := ⟨RX3, TX3, 13, rfl, by decide, iX3, m_147⟩
theorem fl_X3_18 : z_fl RX3 18 3 5 := ⟨RX3, TX3, 13, rfl, by decide, iX3, m_154⟩
theorem fl_X3_21 : z_fl RX3 21 3 6 := ⟨RX3, TX3, 13, rfl, by decide, iX3, m_157⟩
theorem fl_X3_24 : z_fl RX3 24 3 7 := ⟨RX3, TX3, 13, rfl, by decide, iX3, m_160⟩
theorem fl_X3_27 : z_fl RX3 27 3 8 := ⟨RX3, TX3, 13, rfl, by decide, iX3, m_162⟩
theorem fl_X3_49 : z_fl RX3 49 3 2 := ⟨RX3, TX3, 13, rfl, by decide, iX3, m_150⟩
theorem fl_X3_30 : z_fl RX3 30 3 9 := ⟨RX3, TX3, 13, rfl, by decide, iX3, m_165⟩
theorem fl_X3_33 : z_fl RX3 33 3 10 := ⟨RX3, TX3, 13, rfl, by decide, iX3, m_168⟩
theorem fl_X4_191 : z_fl RX4 191 3 1 := ⟨RX3, TX3, 13, rfl, by decide, iX3, m_149⟩
theorem fl_X4_151 : z_fl RX4 151 3 10 := ⟨RX3, TX3, 13, rfl, by decide, iX3, m_169⟩
theorem fl_X4_157 : z_fl RX4 157 3 11 := ⟨RX3, TX3, 13, rfl, by decide, iX3, m_172⟩
theorem fl_X4_163 : z_fl RX4 163 3 12 := ⟨RX3, TX3, 13, rfl, by decide, iX3, m_174⟩
theorem fl_X4_166 : z_fl RX4 166 3 6 := ⟨RX3, TX3, 13, rfl, by decide, iX3, m_158⟩
theorem fl_X4_169 : z_fl RX4 169 3 5 := ⟨RX3, TX3, 13, rfl, by decide, iX3, m_156⟩
theorem fl_X4_172 : z_fl RX4 172 3 7 := ⟨RX3, TX3, 13, rfl, by decide, iX3, m_161⟩
theorem fl_X4_175 : z_fl RX4 175 3 8 := ⟨RX3, TX3, 13, rfl, by decide, iX3, m_164⟩
theorem fl_X4_178 : z_fl RX4 178 3 2 := ⟨RX3, TX3, 13, rfl, by decide, iX3, m_151⟩
theorem fl_X4_181 : z_fl RX4 181 3 9 := ⟨RX3, TX3, 13, rfl, by decide, iX3, m_167⟩
theorem fl_X4_188 : z_fl RX4 188 3 0 := ⟨RX3, TX3, 13, rfl, by decide, iX3, m_146⟩
theorem fl_X3_84 : z_fl RX3 84 0 1 := ⟨RX0, TX0, 13, rfl, by decide, iX0, m_280⟩
theorem fl_X3_70 : z_fl RX3 70 0 12 := ⟨RX0, TX0, 13, rfl, by decide, iX0, m_315⟩
theorem fl_X3_90 : z_fl RX3 90 0 6 := ⟨RX0, TX0, 13, rfl, by decide, iX0, m_295⟩
theorem fl_X4_43 : z_fl RX4 43 4 6 := ⟨RX4, TX4, 10, rfl, by decide, iX4, m_349⟩
theorem fl_X2_86 : z_fl RX2 86 2 1 := ⟨RX2, TX2, 16, rfl, by decide, iX2, m_213⟩
theorem fl_X2_89 : z_fl RX2 89 3 1 := ⟨RX3, TX3, 13, rfl, by decide, iX3, m_148⟩
theorem fl_X2_92 : z_fl RX2 92 2 2 := ⟨RX2, TX2, 16, rfl, by decide, iX2, m_214⟩
theorem fl_X2_21 : z_fl RX2 21 2 5 := ⟨RX2, TX2, 16, rfl, by decide, iX2, m_217⟩
theorem fl_X2_93 : z_fl RX2 93 3 8 := ⟨RX3, TX3, 13, rfl, by decide, iX3, m_163⟩
theorem fl_X2_18 : z_fl RX2 18 2 4 := ⟨RX2, TX2, 16, rfl, by decide, iX2, m_216⟩
theorem fl_X2_94 : z_fl RX2 94 3 5 := ⟨RX3, TX3, 13, rfl, by decide, iX3, m_155⟩
theorem fl_X2_97 : z_fl RX2 97 3 9 := ⟨RX3, TX3, 13, rfl, by decide, iX3, m_166⟩
theorem fl_X2_15 : z_fl RX2 15 2 3 := ⟨RX2, TX2, 16, rfl, by decide, iX2, m_215⟩
theorem fl_X2_9 : z_fl RX2 9 2 0 := ⟨RX2, TX2, 16, rfl, by decide, iX2, m_212⟩
theorem fl_X2_60 : z_fl RX2 60 3 11 := ⟨RX3, TX3, 13, rfl, by decide, iX3, m_171⟩
theorem fl_X2_30 : z_fl RX2 30 2 8 := ⟨RX2, TX2, 16, rfl, by decide, iX2, m_220⟩
theorem fl_X2_67 : z_fl RX2 67 0 10 := ⟨RX0, TX0, 13, rfl, by decide, iX0, m_305⟩
theorem fl_X2_44 : z_fl RX2 44 2 12 := ⟨RX2, TX2, 16, rfl, by decide, iX2, m_226⟩
theorem fl_X2_47 : z_fl RX2 47 2 13 := ⟨RX2, TX2, 16, rfl, by decide, iX2, m_227⟩
theorem fl_X2_36 : z_fl RX2 36 2 10 := ⟨RX2, TX2, 16, rfl, by decide, iX2, m_223⟩
theorem fl_X2_33 : z_fl RX2 33 2 9 := ⟨RX2, TX2, 16, rfl, by decide, iX2, m_221⟩
theorem fl_X2_24 : z_fl RX2 24 2 6 := ⟨RX2, TX2, 16, rfl, by decide, iX2, m_218⟩
theorem fl_X2_27 : z_fl RX2 27 2 7 := ⟨RX2, TX2, 16, rfl, by decide, iX2, m_219⟩
theorem fl_X2_39 : z_fl RX2 39 2 11 := ⟨RX2, TX2, 16, rfl, by decide, iX2, m_225⟩
theorem fl_X4_231 : z_fl RX4 231 2 9 := ⟨RX2, TX2, 16, rfl, by decide, iX2, m_222⟩
theorem fl_X2_146 : z_fl RX2 146 3 12 := ⟨RX3, TX3, 13, rfl, by decide, iX3, m_175⟩
theorem fl_X2_143 : z_fl RX2 143 3 6 := ⟨RX3, TX3, 13, rfl, by decide, iX3, m_159⟩
theorem fl_X4_241 : z_fl RX4 241 2 10 := ⟨RX2, TX2, 16, rfl, by decide, iX2, m_224⟩
theorem fl_X2_50 : z_fl RX2 50 2 14 := ⟨RX2, TX2, 16, rfl, by decide, iX2, m_228⟩
theorem fl_X2_53 : z_fl RX2 53 2 15 := ⟨RX2, TX2, 16, rfl, by decide, iX2, m_230⟩
theorem fl_X4_250 : z_fl RX4 250 2 15 := ⟨RX2, TX2, 16, rfl, by decide, iX2, m_231⟩
theorem fl_X4_247 : z_fl RX4 247 2 14 := ⟨RX2, TX2, 16, rfl, by decide, iX2, m_229⟩
theorem fl_X4_29 : z_fl RX4 29 4 3 := ⟨RX4, TX4, 10, rfl, by decide, iX4, m_346⟩
theorem fl_X3_36 : z_fl RX3 36 3 11 := ⟨RX3, TX3, 13, rfl, by decide, iX3, m_170⟩
theorem fl_X3_39 : z_fl RX3 39 3 12 := ⟨RX3, TX3, 13, rfl, by decide, iX3, m_173⟩
theorem fl_X4_51 : z_fl RX4 51 4 8 := ⟨RX4, TX4, 10, rfl, by decide, iX4, m_351⟩
theorem fl_X4_47 : z_fl RX4 47 4 7 := ⟨RX4, TX4, 10, rfl, by decide, iX4, m_350⟩
theorem fl_X4_32 : z_fl RX4 32 4 4 := ⟨RX4, TX4, 10, rfl, by decide, iX4, m_347⟩
theorem fl_X4_36 : z_fl RX4 36 4 5 := ⟨RX4, TX4, 10, rfl, by decide, iX4, m_348⟩
theorem fl_X5_44 : z_fl RX5 44 5 11 := ⟨RX5, TX5, 48, rfl, by decide, iX5, m_910⟩
theorem fl_X5_41 : z_fl RX5 41 5 10 := ⟨RX5, TX5, 48, rfl, by decide, iX5, m_909⟩
theorem fl_X5_29 : z_fl RX5 29 5 6 := ⟨RX5, TX5, 48, rfl, by decide, iX5, m_905⟩
theorem fl_X5_32 : z_fl RX5 32 5 7 := ⟨RX5, TX5, 48, rfl, by decide, iX5, m_906⟩
theorem fl_X5_35 : z_fl RX5 35 5 8 := ⟨RX5, TX5, 48, rfl, by decide, iX5, m_907⟩
theorem fl_X5_38 : z_fl RX5 38 5 9 := ⟨RX5, TX5, 48, rfl, by decide, iX5, m_908⟩
theorem fl_X5_23 : z_fl RX5 23 5 4 := ⟨RX5, TX5, 48, rfl, by decide, iX5, m_903⟩
theorem fl_X5_57 : z_fl RX5 57 5 23 := ⟨RX5, TX5, 48, rfl, by decide, iX5, m_922⟩
theorem fl_X5_54 : z_fl RX5 54 5 22 := ⟨RX5, TX5, 48, rfl, by decide, iX5, m_921⟩
theorem fl_X5_26 : z_fl RX5 26 5 5 := ⟨RX5, TX5, 48, rfl, by decide, iX5, m_904⟩
theorem fl_X5_7 : z_fl RX5 7 5 0 := ⟨RX5, TX5, 48, rfl, by decide, iX5, m_899⟩
theorem fl_X5_13 : z_fl RX5 13 5 1 := ⟨RX5, TX5, 48, rfl, by decide, iX5, m_900⟩
theorem fl_X5_16 : z_fl RX5 16 5 2 := ⟨RX5, TX5, 48, rfl, by decide, iX5, m_901⟩
theorem fl_X5_19 : z_fl RX5 19 5 3 := ⟨RX5, TX5, 48, rfl, by decide, iX5, m_902⟩
theorem fl_X5_120 : z_fl RX5 120 5 46 := ⟨RX5, TX5, 48, rfl, by decide, iX5, m_945⟩
theorem fl_X5_153 : z_fl RX5 153 5 13 := ⟨RX5, TX5, 48, rfl, by decide, iX5, m_912⟩
theorem fl_X5_47 : z_fl RX5 47 5 12 := ⟨RX5, TX5, 48, rfl, by decide, iX5, m_911⟩
theorem fl_X5_50 : z_fl RX5 50 5 14 := ⟨RX5, TX5, 48, rfl, by decide, iX5, m_913⟩
theorem fl_X5_158 : z_fl RX5 158 5 15 := ⟨RX5, TX5, 48, rfl, by decide, iX5, m_914⟩
theorem fl_X5_224 : z_fl RX5 224 5 21 := ⟨RX5, TX5, 48, rfl, by decide, iX5, m_920⟩
theorem fl_X5_165 : z_fl RX5 165 5 16 := ⟨RX5, TX5, 48, rfl, by decide, iX5, m_915⟩
theorem fl_X5_169 : z_fl RX5 169 5 17 := ⟨RX5, TX5, 48, rfl, by decide, iX5, m_916⟩
theorem fl_X5_209 : z_fl RX5 209 5 19 := ⟨RX5, TX5, 48, rfl, by decide, iX5, m_918⟩
theorem fl_X5_212 : z_fl RX5 212 5 20 := ⟨RX5, TX5, 48, rfl, by decide, iX5, m_919⟩
theorem fl_X5_200 : z_fl RX5 200 5 18 := ⟨RX5, TX5, 48, rfl, by decide, iX5, m_917⟩
theorem fl_X5_274 : z_fl RX5 274 5 24 := ⟨RX5, TX5, 48, rfl, by decide, iX5, m_923⟩
theorem fl_X5_60 : z_fl RX5 60 5 25 := ⟨RX5, TX5, 48, rfl, by decide, iX5, m_924⟩
theorem fl_X5_63 : z_fl RX5 63 5 26 := ⟨RX5, TX5, 48, rfl, by decide, iX5, m_925⟩
theorem fl_X5_268 : z_fl RX5 268 5 27 := ⟨RX5, TX5, 48, rfl, by decide, iX5, m_926⟩
theorem fl_X5_66 : z_fl RX5 66 5 28 := ⟨RX5, TX5, 48, rfl, by decide, iX5, m_927⟩
theorem fl_X5_69 : z_fl RX5 69 5 29 := ⟨RX5, TX5, 48, rfl, by decide, iX5, m_928⟩
theorem fl_X5_72 : z_fl RX5 72 5 30 := ⟨RX5, TX5, 48, rfl, by decide, iX5, m_929⟩
theorem fl_X5_75 : z_fl RX5 75 5 31 := ⟨RX5, TX5, 48, rfl, by decide, iX5, m_930⟩
theorem fl_X5_78 : z_fl RX5 78 5 32 := ⟨RX5, TX5, 48, rfl, by decide, iX5, m_931⟩
theorem fl_X5_81 : z_fl RX5 81 5 33 := ⟨RX5, TX5, 48, rfl, by decide, iX5, m_932⟩
theorem fl_X5_84 : z_fl RX5 84 5 34 := ⟨RX5, TX5, 48, rfl, by decide, iX5, m_933⟩
theorem fl_X5_87 : z_fl RX5 87 5 35 := ⟨RX5, TX5, 48, rfl, by decide, iX5, m_934⟩
theorem fl_X5_90 : z_fl RX5 90 5 36 := ⟨RX5, TX5, 48, rfl, by decide, iX5, m_935⟩
theorem fl_X5_93 : z_fl RX5 93 5 37 := ⟨RX5, TX5, 48, rfl, by decide, iX5, m_936⟩
theorem fl_X5_99 : z_fl RX5 99 5 39 := ⟨RX5, TX5, 48, rfl, by decide, iX5, m_938⟩
theorem fl_X5_96 : z_fl RX5 96 5 38 := ⟨RX5, TX5, 48, rfl, by decide, iX5, m_937⟩
theorem fl_X5_102 : z_fl RX5 102 5 40 := ⟨RX5, TX5, 48, rfl, by decide, iX5, m_939⟩
theorem fl_X5_108 : z_fl RX5 108 5 42 := ⟨RX5, TX5, 48, rfl, by decide, iX5, m_941⟩
theorem fl_X5_105 : z_fl RX5 105 5 41 := ⟨RX5, TX5, 48, rfl, by decide, iX5, m_940⟩
theorem fl_X5_111 : z_fl RX5 111 5 43 := ⟨RX5, TX5, 48, rfl, by decide, iX5, m_942⟩
theorem fl_X5_114 : z_fl RX5 114 5 44 := ⟨RX5, TX5, 48, rfl, by decide, iX5, m_943⟩
theorem fl_X5_117 : z_fl RX5 117 5 45 := ⟨RX5, TX5, 48, rfl, by decide, iX5, m_944⟩
theorem fl_X5_123 : z_fl RX5 123 5 47 := ⟨RX5, TX5, 48, rfl, by decide, iX5, m_946⟩
theorem fp_X0_4 : z_fp 0 4 false .int := ⟨RX0, TX0, 13, tyX0, rfl, by decide +kernel, rfl, by decide +kernel, tyX0_ok, nmX0⟩
theorem fp_X0_5 : z_fp 0 5 false .int := ⟨RX0, TX0, 13, tyX0, rfl, by decide +kernel, rfl, by decide +kernel, tyX0_ok, nmX0⟩
theorem fp_X0_6 : z_fp 0 6 false .int := ⟨RX0, TX0, 13, tyX0, rfl, by decide +kernel, rfl, by decide +kernel, tyX0_ok, nmX0⟩
theorem fp_X0_7 : z_fp 0 7 false .int := ⟨RX0, TX0, 13, tyX0, rfl, by decide +kernel, rfl, by decide +kernel, tyX0_ok, nmX0⟩
theorem fp_X0_8 : z_fp 0 8 false .int := ⟨RX0, TX0, 13, tyX0, rfl, by decide +kernel, rfl, by decide +kernel, tyX0_ok, nmX0⟩
theorem fp_X0_9 : z_fp 0 9 false .int := ⟨RX0, TX0, 13, tyX0, rfl, by decide +kernel, rfl, by decide +kernel, tyX0_ok, nmX0⟩
theorem fp_X0_10 : z_fp 0 10 false .int := ⟨RX0, TX0, 13, tyX0, rfl, by decide +kernel, rfl, by decide +kernel, tyX0_ok, nmX0⟩
theorem fp_X0_11 : z_fp 0 11 false .boolean := ⟨RX0, TX0, 13, tyX0, rfl, by decide +kernel, rfl, by decide +kernel, tyX0_ok, nmX0⟩
theorem fp_X0_12 : z_fp 0 12 false .boolean := ⟨RX0, TX0, 13, tyX0, rfl, by decide +kernel, rfl, by decide +kernel, tyX0_ok, nmX0⟩
theorem fp_X1_1 : z_fp 1 1 false .int := ⟨RX1, TX1, 9, tyX1, rfl, by decide +kernel, rfl, by decide +kernel, tyX1_ok, nmX1⟩
theorem fp_X1_2 : z_fp 1 2 false .int := ⟨RX1, TX1, 9, tyX1, rfl, by decide +kernel, rfl, by decide +kernel, tyX1_ok, nmX1⟩
theorem fp_X1_3 : z_fp 1 3 false .int := ⟨RX1, TX1, 9, tyX1, rfl, by decide +kernel, rfl, by decide +kernel, tyX1_ok, nmX1⟩
theorem fp_X1_6 : z_fp 1 6 false .int := ⟨RX1, TX1, 9, tyX1, rfl, by decide +kernel, rfl, by decide +kernel, tyX1_ok, nmX1⟩
theorem fp_X1_7 : z_fp 1 7 false .int := ⟨RX1, TX1, 9, tyX1, rfl, by decide +kernel, rfl, by decide +kernel, tyX1_ok, nmX1⟩
theorem fp_X1_8 : z_fp 1 8 false .int := ⟨RX1, TX1, 9, tyX1, rfl, by decide +kernel, rfl, by decide +kernel, tyX1_ok, nmX1⟩
theorem fp_X1_5 : z_fp 1 5 false .int := ⟨RX1, TX1, 9, tyX1, rfl, by decide +kernel, rfl, by decide +kernel, tyX1_ok, nmX1⟩
theorem fp_X1_4 : z_fp 1 4 false .int := ⟨RX1, TX1, 9, tyX1, rfl, by decide +kernel, rfl, by decide +kernel, tyX1_ok, nmX1⟩
theorem fp_X4_9 : z_fp 4 9 false (.object "LastLent$Law") := ⟨RX4, TX4, 10, tyX4, rfl, by decide +kernel, rfl, by decide +kernel, tyX4_ok, nmX4⟩
theorem fp_X3_0 : z_fp 3 0 false .int := ⟨RX3, TX3, 13, tyX3, rfl, by decide +kernel, rfl, by decide +kernel, tyX3_ok, nmX3⟩
theorem fp_X3_2 : z_fp 3 2 false .int := ⟨RX3, TX3, 13, tyX3, rfl, by decide +kernel, rfl, by decide +kernel, tyX3_ok, nmX3⟩
theorem fp_X3_1 : z_fp 3 1 false .int := ⟨RX3, TX3, 13, tyX3, rfl, by decide +kernel, rfl, by decide +kernel, tyX3_ok, nmX3⟩
theorem fp_X2_1 : z_fp 2 1 false .int := ⟨RX2, TX2, 16, tyX2, rfl, by decide +kernel, rfl, by decide +kernel, tyX2_ok, nmX2⟩
theorem fp_X2_2 : z_fp 2 2 false .int := ⟨RX2, TX2, 16, tyX2, rfl, by decide +kernel, rfl, by decide +kernel, tyX2_ok, nmX2⟩
theorem fp_X5_13 : z_fp 5 13 false .int := ⟨RX5, TX5, 48, tyX5, rfl, by decide +kernel, rfl, by decide +kernel, tyX5_ok, nmX5⟩
theorem fp_X5_14 : z_fp 5 14 false .int := ⟨RX5, TX5, 48, tyX5, rfl, by decide +kernel, rfl, by decide +kernel, tyX5_ok, nmX5⟩
theorem fp_X5_15 : z_fp 5 15 false .int := ⟨RX5, TX5, 48, tyX5, rfl, by decide +kernel, rfl, by decide +kernel, tyX5_ok, nmX5⟩
theorem fp_X5_21 : z_fp 5 21 false .int := ⟨RX5, TX5, 48, tyX5, rfl, by decide +kernel, rfl, by decide +kernel, tyX5_ok, nmX5⟩
theorem fp_X5_16 : z_fp 5 16 false .long := ⟨RX5, TX5, 48, tyX5, rfl, by decide +kernel, rfl, by decide +kernel, tyX5_ok, nmX5⟩
theorem fp_X5_17 : z_fp 5 17 false .int := ⟨RX5, TX5, 48, tyX5, rfl, by decide +kernel, rfl, by decide +kernel, tyX5_ok, nmX5⟩
theorem fp_X5_19 : z_fp 5 19 false .int := ⟨RX5, TX5, 48, tyX5, rfl, by decide +kernel, rfl, by decide +kernel, tyX5_ok, nmX5⟩
theorem fp_X5_20 : z_fp 5 20 false .int := ⟨RX5, TX5, 48, tyX5, rfl, by decide +kernel, rfl, by decide +kernel, tyX5_ok, nmX5⟩
theorem fp_X5_18 : z_fp 5 18 false .int := ⟨RX5, TX5, 48, tyX5, rfl, by decide +kernel, rfl, by decide +kernel, tyX5_ok, nmX5⟩
theorem fp_X5_24 : z_fp 5 24 false .int := ⟨RX5, TX5, 48, tyX5, rfl, by decide +kernel, rfl, by decide +kernel, tyX5_ok, nmX5⟩
theorem fp_X5_27 : z_fp 5 27 false .int := ⟨RX5, TX5, 48, tyX5, rfl, by decide +kernel, rfl, by decide +kernel, tyX5_ok, nmX5⟩
theorem q_X1_append : z_Yc yX1_append cX1_append 2 none 1 := ⟨m_381, m_79, ⟨by decide +kernel, by decide +kernel, by decide +kernel⟩, by decide⟩
theorem q_X4_isLand : z_Yc yX4_isLand cX4_isLand 1 (some .boolean) 1 := ⟨m_388, m_78, ⟨by decide +kernel, by decide +kernel, by decide +kernel⟩, by decide⟩
theorem q_X0_tellNothing : z_Yc yX0_tellNothing cX0_tellNothing 2 none 0 := ⟨m_274, m_82, ⟨by decide +kernel, by decide +kernel, by decide +kernel⟩, by decide⟩
theorem q_X1_isLetter : z_Yc yX1_isLetter cX1_isLetter 1 (some .boolean) 1 := ⟨m_400, m_79, ⟨by decide +kernel, by decide +kernel, by decide +kernel⟩, by decide⟩
theorem q_X1_isFigure : z_Yc yX1_isFigure cX1_isFigure 1 (some .boolean) 1 := ⟨m_403, m_79, ⟨by decide +kernel, by decide +kernel, by decide +kernel⟩, by decide⟩
theorem q_X1_nextToken : z_Yc yX1_nextToken cX1_nextToken 1 none 0 := ⟨m_397, m_79, ⟨by decide +kernel, by decide +kernel, by decide +kernel⟩, by decide⟩
theorem q_X1_isWordAt : z_Yc yX1_isWordAt cX1_isWordAt 5 (some .boolean) 2 := ⟨m_426, m_79, ⟨by decide +kernel, by decide +kernel, by decide +kernel⟩, by decide⟩
theorem q_X1_wordIn : z_Yc yX1_wordIn cX1_wordIn 3 (some .int) 1 := ⟨m_412, m_79, ⟨by decide +kernel, by decide +kernel, by decide +kernel⟩, by decide⟩
theorem q_X4_bit : z_Yc yX4_bit cX4_bit 2 (some .int) 2 := ⟨m_475, m_78, ⟨by decide +kernel, by decide +kernel, by decide +kernel⟩, by decide⟩
theorem q_X1_isOneTooMany : z_Yc yX1_isOneTooMany cX1_isOneTooMany 3 (some .boolean) 2 := ⟨m_472, m_79, ⟨by decide +kernel, by decide +kernel, by decide +kernel⟩, by decide⟩
theorem q_X1_refuse : z_Yc yX1_refuse cX1_refuse 2 (some .boolean) 1 := ⟨m_468, m_79, ⟨by decide +kernel, by decide +kernel, by decide +kernel⟩, by decide⟩
theorem q_X1_beginClause : z_Yc yX1_beginClause cX1_beginClause 3 (some .int) 1 := ⟨m_407, m_79, ⟨by decide +kernel, by decide +kernel, by decide +kernel⟩, by decide⟩
theorem q_X1_readKind : z_Yc yX1_readKind cX1_readKind 3 (some .int) 1 := ⟨m_487, m_79, ⟨by decide +kernel, by decide +kernel, by decide +kernel⟩, by decide⟩
theorem q_X1_readFund : z_Yc yX1_readFund cX1_readFund 4 (some .boolean) 2 := ⟨m_492, m_79, ⟨by decide +kernel, by decide +kernel, by decide +kernel⟩, by decide⟩
theorem q_X1_isFundNext : z_Yc yX1_isFundNext cX1_isFundNext 3 (some .boolean) 0 := ⟨m_497, m_79, ⟨by decide +kernel, by decide +kernel, by decide +kernel⟩, by decide⟩
theorem q_X1_readRides : z_Yc yX1_readRides cX1_readRides 5 (some .boolean) 1 := ⟨m_483, m_79, ⟨by decide +kernel, by decide +kernel, by decide +kernel⟩, by decide⟩
theorem q_X1_readAhead : z_Yc yX1_readAhead cX1_readAhead 4 (some .boolean) 1 := ⟨m_501, m_79, ⟨by decide +kernel, by decide +kernel, by decide +kernel⟩, by decide⟩
theorem q_X1_readFirst : z_Yc yX1_readFirst cX1_readFirst 3 (some .boolean) 1 := ⟨m_505, m_79, ⟨by decide +kernel, by decide +kernel, by decide +kernel⟩, by decide⟩
theorem q_X1_readBehind : z_Yc yX1_readBehind cX1_readBehind 3 (some .boolean) 1 := ⟨m_509, m_79, ⟨by decide +kernel, by decide +kernel, by decide +kernel⟩, by decide⟩
theorem q_X1_readWithin : z_Yc yX1_readWithin cX1_readWithin 3 (some .boolean) 1 := ⟨m_513, m_79, ⟨by decide +kernel, by decide +kernel, by decide +kernel⟩, by decide⟩
theorem q_X1_kindsThatDie : z_Yc yX1_kindsThatDie cX1_kindsThatDie 3 (some .int) 1 := ⟨m_521, m_79, ⟨by decide +kernel, by decide +kernel, by decide +kernel⟩, by decide⟩
theorem q_X1_readNumber : z_Yc yX1_readNumber cX1_readNumber 4 (some .int) 1 := ⟨m_525, m_79, ⟨by decide +kernel, by decide +kernel, by decide +kernel⟩, by decide⟩
theorem q_X1_readDies : z_Yc yX1_readDies cX1_readDies 4 (some .boolean) 1 := ⟨m_518, m_79, ⟨by decide +kernel, by decide +kernel, by decide +kernel⟩, by decide⟩
theorem q_X1_readLeave : z_Yc yX1_readLeave cX1_readLeave 3 (some .boolean) 1 := ⟨m_529, m_79, ⟨by decide +kernel, by decide +kernel, by decide +kernel⟩, by decide⟩
theorem q_X1_readCosts : z_Yc yX1_readCosts cX1_readCosts 3 (some .boolean) 1 := ⟨m_533, m_79, ⟨by decide +kernel, by decide +kernel, by decide +kernel⟩, by decide⟩
theorem q_X1_readBody : z_Yc yX1_readBody cX1_readBody 3 (some .boolean) 2 := ⟨m_479, m_79, ⟨by decide +kernel, by decide +kernel, by decide +kernel⟩, by decide⟩
theorem q_X1_readClose : z_Yc yX1_readClose cX1_readClose 1 none 0 := ⟨m_537, m_79, ⟨by decide +kernel, by decide +kernel, by decide +kernel⟩, by decide⟩
theorem q_X1_readInto : z_Yc yX1_readInto cX1_readInto 4 (some .int) 1 := ⟨m_392, m_79, ⟨by decide +kernel, by decide +kernel, by decide +kernel⟩, by decide⟩
theorem q_X0_followSteps : z_Yc yX0_followSteps cX0_followSteps 3 none 0 := ⟨m_545, m_82, ⟨by decide +kernel, by decide +kernel, by decide +kernel⟩, by decide⟩
theorem q_X0_raiseRanks : z_Yc yX0_raiseRanks cX0_raiseRanks 3 none 0 := ⟨m_550, m_82, ⟨by decide +kernel, by decide +kernel, by decide +kernel⟩, by decide⟩
theorem q_X0_settle : z_Yc yX0_settle cX0_settle 2 none 0 := ⟨m_541, m_82, ⟨by decide +kernel, by decide +kernel, by decide +kernel⟩, by decide⟩
theorem q_X4_isKind : z_Yc yX4_isKind cX4_isKind 1 (some .boolean) 1 := ⟨m_565, m_78, ⟨by decide +kernel, by decide +kernel, by decide +kernel⟩, by decide⟩
theorem q_X4_isDay : z_Yc yX4_isDay cX4_isDay 1 (some .boolean) 1 := ⟨m_581, m_78, ⟨by decide +kernel, by decide +kernel, by decide +kernel⟩, by decide⟩
theorem q_X3_lastEnd : z_Yc yX3_lastEnd cX3_lastEnd 1 (some .int) 0 := ⟨m_585, m_80, ⟨by decide +kernel, by decide +kernel, by decide +kernel⟩, by decide⟩
theorem q_X3_addVoyage : z_Yc yX3_addVoyage cX3_addVoyage 3 (some .int) 2 := ⟨m_589, m_80, ⟨by decide +kernel, by decide +kernel, by decide +kernel⟩, by decide⟩
theorem q_X4_isHolder : z_Yc yX4_isHolder cX4_isHolder 1 (some .boolean) 1 := ⟨m_596, m_78, ⟨by decide +kernel, by decide +kernel, by decide +kernel⟩, by decide⟩
theorem q_X3_addClaim : z_Yc yX3_addClaim cX3_addClaim 7 (some .int) 6 := ⟨m_600, m_80, ⟨by decide +kernel, by decide +kernel, by decide +kernel⟩, by decide⟩
theorem q_X4_isClaim : z_Yc yX4_isClaim cX4_isClaim 2 (some .boolean) 1 := ⟨m_608, m_78, ⟨by decide +kernel, by decide +kernel, by decide +kernel⟩, by decide⟩
theorem q_X4_isFund : z_Yc yX4_isFund cX4_isFund 1 (some .boolean) 1 := ⟨m_615, m_78, ⟨by decide +kernel, by decide +kernel, by decide +kernel⟩, by decide⟩
theorem q_X4_isCargo : z_Yc yX4_isCargo cX4_isCargo 1 (some .boolean) 1 := ⟨m_622, m_78, ⟨by decide +kernel, by decide +kernel, by decide +kernel⟩, by decide⟩
theorem q_X3_voyageOf : z_Yc yX3_voyageOf cX3_voyageOf 4 (some .int) 1 := ⟨m_634, m_80, ⟨by decide +kernel, by decide +kernel, by decide +kernel⟩, by decide⟩
theorem q_X4_sumOf : z_Yc yX4_sumOf cX4_sumOf 4 (some .int) 2 := ⟨m_641, m_78, ⟨by decide +kernel, by decide +kernel, by decide +kernel⟩, by decide⟩
theorem q_X3_lastUnbarred : z_Yc yX3_lastUnbarred cX3_lastUnbarred 6 (some .int) 2 := ⟨m_653, m_80, ⟨by decide +kernel, by decide +kernel, by decide +kernel⟩, by decide⟩
theorem q_X3_lacksLeave : z_Yc yX3_lacksLeave cX3_lacksLeave 3 (some .boolean) 2 := ⟨m_660, m_80, ⟨by decide +kernel, by decide +kernel, by decide +kernel⟩, by decide⟩
theorem q_X3_whyDead : z_Yc yX3_whyDead cX3_whyDead 4 (some .int) 3 := ⟨m_649, m_80, ⟨by decide +kernel, by decide +kernel, by decide +kernel⟩, by decide⟩
theorem q_X3_lastAlive : z_Yc yX3_lastAlive cX3_lastAlive 5 (some .int) 2 := ⟨m_669, m_80, ⟨by decide +kernel, by decide +kernel, by decide +kernel⟩, by decide⟩
theorem q_X0_standingOf : z_Yc yX0_standingOf cX0_standingOf 7 (some .int) 3 := ⟨m_683, m_82, ⟨by decide +kernel, by decide +kernel, by decide +kernel⟩, by decide⟩
theorem q_X3_standing : z_Yc yX3_standing cX3_standing 3 (some .int) 2 := ⟨m_678, m_80, ⟨by decide +kernel, by decide +kernel, by decide +kernel⟩, by decide⟩
theorem q_J6_compare_7cf53 : z_Yc yJ6_compare_7cf53 cJ6_compare_7cf53 2 (some .int) 2 := ⟨m_686, m_89, ⟨by decide +kernel, by decide +kernel, by decide +kernel⟩, by decide⟩
theorem q_X0_fundsFor : z_Yc yX0_fundsFor cX0_fundsFor 4 (some .int) 2 := ⟨m_698, m_82, ⟨by decide +kernel, by decide +kernel, by decide +kernel⟩, by decide⟩
theorem q_X2_joinLine : z_Yc yX2_joinLine cX2_joinLine 3 none 1 := ⟨m_704, m_81, ⟨by decide +kernel, by decide +kernel, by decide +kernel⟩, by decide⟩
theorem q_X2_lineUp : z_Yc yX2_lineUp cX2_lineUp 5 none 3 := ⟨m_694, m_81, ⟨by decide +kernel, by decide +kernel, by decide +kernel⟩, by decide⟩
theorem q_X2_stepOf : z_Yc yX2_stepOf cX2_stepOf 7 (some .int) 2 := ⟨m_708, m_81, ⟨by decide +kernel, by decide +kernel, by decide +kernel⟩, by decide⟩
theorem q_X4_isWay : z_Yc yX4_isWay cX4_isWay 1 (some .boolean) 1 := ⟨m_716, m_78, ⟨by decide +kernel, by decide +kernel, by decide +kernel⟩, by decide⟩
theorem q_X4_copyRow : z_Yc yX4_copyRow cX4_copyRow 2 none 2 := ⟨m_724, m_78, ⟨by decide +kernel, by decide +kernel, by decide +kernel⟩, by decide⟩
theorem q_X2_share : z_Yc yX2_share cX2_share 8 (some .int) 5 := ⟨m_740, m_81, ⟨by decide +kernel, by decide +kernel, by decide +kernel⟩, by decide⟩
theorem q_X2_payFund : z_Yc yX2_payFund cX2_payFund 8 (some .int) 2 := ⟨m_737, m_81, ⟨by decide +kernel, by decide +kernel, by decide +kernel⟩, by decide⟩
theorem q_X2_payAllFrom : z_Yc yX2_payAllFrom cX2_payAllFrom 3 none 1 := ⟨m_733, m_81, ⟨by decide +kernel, by decide +kernel, by decide +kernel⟩, by decide⟩
theorem q_X2_wantedOf : z_Yc yX2_wantedOf cX2_wantedOf 4 (some .int) 1 := ⟨m_752, m_81, ⟨by decide +kernel, by decide +kernel, by decide +kernel⟩, by decide⟩
theorem q_X2_mostPayable : z_Yc yX2_mostPayable cX2_mostPayable 5 (some .int) 0 := ⟨m_748, m_81, ⟨by decide +kernel, by decide +kernel, by decide +kernel⟩, by decide⟩
theorem q_X2_swapFunds : z_Yc yX2_swapFunds cX2_swapFunds 4 none 2 := ⟨m_761, m_81, ⟨by decide +kernel, by decide +kernel, by decide +kernel⟩, by decide⟩
theorem q_X2_nextOrder : z_Yc yX2_nextOrder cX2_nextOrder 5 (some .int) 0 := ⟨m_757, m_81, ⟨by decide +kernel, by decide +kernel, by decide +kernel⟩, by decide⟩
theorem q_X2_marshal : z_Yc yX2_marshal cX2_marshal 4 none 0 := ⟨m_744, m_81, ⟨by decide +kernel, by decide +kernel, by decide +kernel⟩, by decide⟩
theorem q_X2_run : z_Yc yX2_run cX2_run 6 none 4 := ⟨m_720, m_81, ⟨by decide +kernel, by decide +kernel, by decide +kernel⟩, by decide⟩
theorem q_X2_paidTo : z_Yc yX2_paidTo cX2_paidTo 2 (some .int) 1 := ⟨m_765, m_81, ⟨by decide +kernel, by decide +kernel, by decide +kernel⟩, by decide⟩
theorem q_X2_holding : z_Yc yX2_holding cX2_holding 5 (some .int) 2 := ⟨m_781, m_81, ⟨by decide +kernel, by decide +kernel, by decide +kernel⟩, by decide⟩
theorem q_X2_paidInAll : z_Yc yX2_paidInAll cX2_paidInAll 1 (some .int) 0 := ⟨m_777, m_81, ⟨by decide +kernel, by decide +kernel, by decide +kernel⟩, by decide⟩
theorem q_X2_paidForShip : z_Yc yX2_paidForShip cX2_paidForShip 5 (some .int) 2 := ⟨m_797, m_81, ⟨by decide +kernel, by decide +kernel, by decide +kernel⟩, by decide⟩
theorem q_X2_giveBack : z_Yc yX2_giveBack cX2_giveBack 2 none 0 := ⟨m_793, m_81, ⟨by decide +kernel, by decide +kernel, by decide +kernel⟩, by decide⟩
theorem q_X3_become : z_Yc yX3_become cX3_become 2 none 1 := ⟨m_805, m_80, ⟨by decide +kernel, by decide +kernel, by decide +kernel⟩, by decide⟩
theorem q_X3_takeAway : z_Yc yX3_takeAway cX3_takeAway 2 none 1 := ⟨m_826, m_80, ⟨by decide +kernel, by decide +kernel, by decide +kernel⟩, by decide⟩
theorem q_X4_holdingWithout : z_Yc yX4_holdingWithout cX4_holdingWithout 6 (some .int) 5 := ⟨m_822, m_78, ⟨by decide +kernel, by decide +kernel, by decide +kernel⟩, by decide⟩
theorem q_X4_canSailAgain : z_Yc yX4_canSailAgain cX4_canSailAgain 3 (some .boolean) 2 := ⟨m_834, m_78, ⟨by decide +kernel, by decide +kernel, by decide +kernel⟩, by decide⟩
theorem q_X4_supposeVoyage : z_Yc yX4_supposeVoyage cX4_supposeVoyage 7 none 5 := ⟨m_838, m_78, ⟨by decide +kernel, by decide +kernel, by decide +kernel⟩, by decide⟩
theorem q_X4_worthFor : z_Yc yX4_worthFor cX4_worthFor 3 (some .int) 2 := ⟨m_846, m_78, ⟨by decide +kernel, by decide +kernel, by decide +kernel⟩, by decide⟩
theorem q_X4_wiseFor : z_Yc yX4_wiseFor cX4_wiseFor 4 (some .int) 1 := ⟨m_842, m_78, ⟨by decide +kernel, by decide +kernel, by decide +kernel⟩, by decide⟩
theorem q_X4_hangsOn : z_Yc yX4_hangsOn cX4_hangsOn 8 (some .int) 5 := ⟨m_854, m_78, ⟨by decide +kernel, by decide +kernel, by decide +kernel⟩, by decide⟩
theorem q_X4_isImage : z_Yc yX4_isImage cX4_isImage 1 (some .boolean) 1 := ⟨m_864, m_78, ⟨by decide +kernel, by decide +kernel, by decide +kernel⟩, by decide⟩
theorem q_X5_areAlike : z_Yc yX5_areAlike cX5_areAlike 4 (some .boolean) 3 := ⟨m_890, m_83, ⟨by decide +kernel, by decide +kernel, by decide +kernel⟩, by decide⟩
theorem q_X5_levelRanks : z_Yc yX5_levelRanks cX5_levelRanks 4 none 1 := ⟨m_894, m_83, ⟨by decide +kernel, by decide +kernel, by decide +kernel⟩, by decide⟩
theorem q_X5_findRanks : z_Yc yX5_findRanks cX5_findRanks 5 none 1 := ⟨m_886, m_83, ⟨by decide +kernel, by decide +kernel, by decide +kernel⟩, by decide⟩
theorem q_X5_in : z_Yc yX5_in cX5_in 6 (some .boolean) 3 := ⟨m_1051, m_83, ⟨by decide +kernel, by decide +kernel, by decide +kernel⟩, by decide⟩
theorem q_X5_isLand : z_Yc yX5_isLand cX5_isLand 1 (some .boolean) 1 := ⟨m_1059, m_83, ⟨by decide +kernel, by decide +kernel, by decide +kernel⟩, by decide⟩
theorem q_X5_bare : z_Yc yX5_bare cX5_bare 2 none 0 := ⟨m_878, m_83, ⟨by decide +kernel, by decide +kernel, by decide +kernel⟩, by decide⟩
theorem q_X5_keepLaw : z_Yc yX5_keepLaw cX5_keepLaw 6 none 1 := ⟨m_882, m_83, ⟨by decide +kernel, by decide +kernel, by decide +kernel⟩, by decide⟩
theorem q_X5_here : z_Yc yX5_here cX5_here 1 (some .int) 0 := ⟨m_1064, m_83, ⟨by decide +kernel, by decide +kernel, by decide +kernel⟩, by decide⟩
theorem q_X5_readWord : z_Yc yX5_readWord cX5_readWord 2 none 0 := ⟨m_1072, m_83, ⟨by decide +kernel, by decide +kernel, by decide +kernel⟩, by decide⟩
theorem q_X5_code : z_Yc yX5_code cX5_code 4 (some .long) 4 := ⟨m_1085, m_83, ⟨by decide +kernel, by decide +kernel, by decide +kernel⟩, by decide⟩
theorem q_X5_longer : z_Yc yX5_longer cX5_longer 3 (some .long) 2 := ⟨m_1088, m_83, ⟨by decide +kernel, by decide +kernel, by decide +kernel⟩, by decide⟩
theorem q_X5_clauseOf : z_Yc yX5_clauseOf cX5_clauseOf 7 (some .int) 0 := ⟨m_1082, m_83, ⟨by decide +kernel, by decide +kernel, by decide +kernel⟩, by decide⟩
theorem q_X5_kindOf : z_Yc yX5_kindOf cX5_kindOf 5 (some .int) 0 := ⟨m_1104, m_83, ⟨by decide +kernel, by decide +kernel, by decide +kernel⟩, by decide⟩
theorem q_X5_fails : z_Yc yX5_fails cX5_fails 3 (some .int) 2 := ⟨m_1092, m_83, ⟨by decide +kernel, by decide +kernel, by decide +kernel⟩, by decide⟩
theorem q_X5_takeKind : z_Yc yX5_takeKind cX5_takeKind 1 (some .int) 0 := ⟨m_1100, m_83, ⟨by decide +kernel, by decide +kernel, by decide +kernel⟩, by decide⟩
theorem q_X5_takeNumber : z_Yc yX5_takeNumber cX5_takeNumber 5 (some .int) 2 := ⟨m_1120, m_83, ⟨by decide +kernel, by decide +kernel, by decide +kernel⟩, by decide⟩
theorem q_X5_takeOfKind : z_Yc yX5_takeOfKind cX5_takeOfKind 5 (some .int) 1 := ⟨m_1130, m_83, ⟨by decide +kernel, by decide +kernel, by decide +kernel⟩, by decide⟩
theorem q_X5_withinOf : z_Yc yX5_withinOf cX5_withinOf 3 (some .int) 0 := ⟨m_1126, m_83, ⟨by decide +kernel, by decide +kernel, by decide +kernel⟩, by decide⟩
theorem q_X5_takeOnce : z_Yc yX5_takeOnce cX5_takeOnce 4 (some .int) 2 := ⟨m_1116, m_83, ⟨by decide +kernel, by decide +kernel, by decide +kernel⟩, by decide⟩
theorem q_X5_takeAhead : z_Yc yX5_takeAhead cX5_takeAhead 4 (some .int) 1 := ⟨m_1112, m_83, ⟨by decide +kernel, by decide +kernel, by decide +kernel⟩, by decide⟩
theorem q_X5_fundOf : z_Yc yX5_fundOf cX5_fundOf 3 (some .int) 0 := ⟨m_1108, m_83, ⟨by decide +kernel, by decide +kernel, by decide +kernel⟩, by decide⟩
theorem q_X5_takeRides : z_Yc yX5_takeRides cX5_takeRides 5 (some .int) 0 := ⟨m_1096, m_83, ⟨by decide +kernel, by decide +kernel, by decide +kernel⟩, by decide⟩
theorem q_X5_takeClause : z_Yc yX5_takeClause cX5_takeClause 5 (some .int) 0 := ⟨m_1068, m_83, ⟨by decide +kernel, by decide +kernel, by decide +kernel⟩, by decide⟩
theorem q_X5_isKind : z_Yc yX5_isKind cX5_isKind 1 (some .boolean) 1 := ⟨m_1141, m_83, ⟨by decide +kernel, by decide +kernel, by decide +kernel⟩, by decide⟩
theorem q_X5_ring : z_Yc yX5_ring cX5_ring 5 (some .int) 1 := ⟨m_1146, m_83, ⟨by decide +kernel, by decide +kernel, by decide +kernel⟩, by decide⟩
theorem q_X5_isDay : z_Yc yX5_isDay cX5_isDay 1 (some .boolean) 1 := ⟨m_1162, m_83, ⟨by decide +kernel, by decide +kernel, by decide +kernel⟩, by decide⟩
theorem q_X5_isHolder : z_Yc yX5_isHolder cX5_isHolder 1 (some .boolean) 1 := ⟨m_1170, m_83, ⟨by decide +kernel, by decide +kernel, by decide +kernel⟩, by decide⟩
theorem q_X5_putClaim : z_Yc yX5_putClaim cX5_putClaim 7 none 6 := ⟨m_1175, m_83, ⟨by decide +kernel, by decide +kernel, by decide +kernel⟩, by decide⟩
theorem q_X5_isClaim : z_Yc yX5_isClaim cX5_isClaim 2 (some .boolean) 1 := ⟨m_1183, m_83, ⟨by decide +kernel, by decide +kernel, by decide +kernel⟩, by decide⟩
theorem q_X5_isFund : z_Yc yX5_isFund cX5_isFund 1 (some .boolean) 1 := ⟨m_1191, m_83, ⟨by decide +kernel, by decide +kernel, by decide +kernel⟩, by decide⟩
theorem q_X5_isCargo : z_Yc yX5_isCargo cX5_isCargo 1 (some .boolean) 1 := ⟨m_1199, m_83, ⟨by decide +kernel, by decide +kernel, by decide +kernel⟩, by decide⟩
theorem q_X5_voyageOf : z_Yc yX5_voyageOf cX5_voyageOf 4 (some .int) 1 := ⟨m_1212, m_83, ⟨by decide +kernel, by decide +kernel, by decide +kernel⟩, by decide⟩
theorem q_X5_why : z_Yc yX5_why cX5_why 6 (some .int) 3 := ⟨m_1224, m_83, ⟨by decide +kernel, by decide +kernel, by decide +kernel⟩, by decide⟩
theorem q_X5_order2 : z_Yc yX5_order2 cX5_order2 10 (some .int) 3 := ⟨m_1236, m_83, ⟨by decide +kernel, by decide +kernel, by decide +kernel⟩, by decide⟩
theorem q_X5_isOn : z_Yc yX5_isOn cX5_isOn 5 (some .boolean) 3 := ⟨m_1248, m_83, ⟨by decide +kernel, by decide +kernel, by decide +kernel⟩, by decide⟩
theorem q_X5_isThere : z_Yc yX5_isThere cX5_isThere 5 (some .boolean) 4 := ⟨m_1244, m_83, ⟨by decide +kernel, by decide +kernel, by decide +kernel⟩, by decide⟩
theorem q_X5_isGood : z_Yc yX5_isGood cX5_isGood 2 (some .boolean) 2 := ⟨m_1255, m_83, ⟨by decide +kernel, by decide +kernel, by decide +kernel⟩, by decide⟩
theorem q_X5_wants : z_Yc yX5_wants cX5_wants 2 (some .int) 1 := ⟨m_1275, m_83, ⟨by decide +kernel, by decide +kernel, by decide +kernel⟩, by decide⟩
theorem q_X5_isWanting : z_Yc yX5_isWanting cX5_isWanting 5 (some .boolean) 4 := ⟨m_1271, m_83, ⟨by decide +kernel, by decide +kernel, by decide +kernel⟩, by decide⟩
theorem q_X5_findStep : z_Yc yX5_findStep cX5_findStep 7 (some .int) 3 := ⟨m_1267, m_83, ⟨by decide +kernel, by decide +kernel, by decide +kernel⟩, by decide⟩
theorem q_X5_pay : z_Yc yX5_pay cX5_pay 5 none 4 := ⟨m_1283, m_83, ⟨by decide +kernel, by decide +kernel, by decide +kernel⟩, by decide⟩
theorem q_X5_payStep : z_Yc yX5_payStep cX5_payStep 8 none 3 := ⟨m_1279, m_83, ⟨by decide +kernel, by decide +kernel, by decide +kernel⟩, by decide⟩
theorem q_X5_payAll : z_Yc yX5_payAll cX5_payAll 7 (some .int) 2 := ⟨m_1263, m_83, ⟨by decide +kernel, by decide +kernel, by decide +kernel⟩, by decide⟩
theorem q_X5_payOut : z_Yc yX5_payOut cX5_payOut 10 none 3 := ⟨m_1259, m_83, ⟨by decide +kernel, by decide +kernel, by decide +kernel⟩, by decide⟩
theorem q_X5_having : z_Yc yX5_having cX5_having 4 (some .int) 1 := ⟨m_1295, m_83, ⟨by decide +kernel, by decide +kernel, by decide +kernel⟩, by decide⟩
theorem q_X5_hanging : z_Yc yX5_hanging cX5_hanging 12 (some .int) 5 := ⟨m_1333, m_83, ⟨by decide +kernel, by decide +kernel, by decide +kernel⟩, by decide⟩
theorem q_X5_isImage : z_Yc yX5_isImage cX5_isImage 1 (some .boolean) 1 := ⟨m_1340, m_83, ⟨by decide +kernel, by decide +kernel, by decide +kernel⟩, by decide⟩
theorem q_J0_coder_7d493 : z_Yc yJ0_coder_7d493 cJ0_coder_7d493 1 (some .byte) 0 := ⟨m_420, m_84, ⟨by decide +kernel, by decide +kernel, by decide +kernel⟩, by decide⟩
theorem q_J3_checkIndex_8e157 : z_Yc yJ3_checkIndex_8e157 cJ3_checkIndex_8e157 3 (some .int) 3 := ⟨m_445, m_86, ⟨by decide +kernel, by decide +kernel, by decide +kernel⟩, by decide⟩
theorem q_J0_checkIndex_df160 : z_Yc yJ0_checkIndex_df160 cJ0_checkIndex_df160 2 none 2 := ⟨m_440, m_84, ⟨by decide +kernel, by decide +kernel, by decide +kernel⟩, by decide⟩
theorem q_J0_isLatin1_aae02 : z_Yc yJ0_isLatin1_aae02 cJ0_isLatin1_aae02 1 (some .boolean) 0 := ⟨m_434, m_84, ⟨by decide +kernel, by decide +kernel, by decide +kernel⟩, by decide⟩
theorem q_J1_charAt_3b067 : z_Yc yJ1_charAt_3b067 cJ1_charAt_3b067 2 (some .char) 2 := ⟨m_437, m_85, ⟨by decide +kernel, by decide +kernel, by decide +kernel⟩, by decide⟩
theorem q_J0_length_8abf5 : z_Yc yJ0_length_8abf5 cJ0_length_8abf5 1 (some .int) 0 := ⟨m_416, m_84, ⟨by decide +kernel, by decide +kernel, by decide +kernel⟩, by decide⟩
theorem q_J0_charAt_5068e : z_Yc yJ0_charAt_5068e cJ0_charAt_5068e 2 (some .char) 1 := ⟨m_430, m_84, ⟨by decide +kernel, by decide +kernel, by decide +kernel⟩, by decide⟩
theorem v_X1_append : z_Yv yX1_append := ⟨m_379, m_380⟩
theorem v_X0_tellNothing : z_Yv yX0_tellNothing := ⟨m_272, m_273⟩
theorem v_X1_nextToken : z_Yv yX1_nextToken := ⟨m_396, m_0⟩
theorem v_X1_isWordAt : z_Yv yX1_isWordAt := ⟨m_425, m_3⟩
theorem v_X1_wordIn : z_Yv yX1_wordIn := ⟨m_411, m_2⟩
theorem v_X1_isOneTooMany : z_Yv yX1_isOneTooMany := ⟨m_471, m_5⟩
theorem v_X1_refuse : z_Yv yX1_refuse := ⟨m_467, m_4⟩
theorem v_X1_beginClause : z_Yv yX1_beginClause := ⟨m_406, m_1⟩
theorem v_X1_readKind : z_Yv yX1_readKind := ⟨m_486, m_8⟩
theorem v_X1_readFund : z_Yv yX1_readFund := ⟨m_491, m_9⟩
theorem v_X1_isFundNext : z_Yv yX1_isFundNext := ⟨m_496, m_10⟩
theorem v_X1_readRides : z_Yv yX1_readRides := ⟨m_482, m_7⟩
theorem v_X1_readAhead : z_Yv yX1_readAhead := ⟨m_500, m_11⟩
theorem v_X1_readFirst : z_Yv yX1_readFirst := ⟨m_504, m_12⟩
theorem v_X1_readBehind : z_Yv yX1_readBehind := ⟨m_508, m_13⟩
theorem v_X1_readWithin : z_Yv yX1_readWithin := ⟨m_512, m_14⟩
theorem v_X1_readNumber : z_Yv yX1_readNumber := ⟨m_524, m_16⟩
theorem v_X1_readDies : z_Yv yX1_readDies := ⟨m_517, m_15⟩
theorem v_X1_readLeave : z_Yv yX1_readLeave := ⟨m_528, m_17⟩
theorem v_X1_readCosts : z_Yv yX1_readCosts := ⟨m_532, m_18⟩
theorem v_X1_readBody : z_Yv yX1_readBody := ⟨m_478, m_6⟩
theorem v_X1_readClose : z_Yv yX1_readClose := ⟨m_536, m_19⟩
theorem v_X1_readInto : z_Yv yX1_readInto := ⟨m_390, m_391⟩
theorem v_X0_followSteps : z_Yv yX0_followSteps := ⟨m_544, m_20⟩
theorem v_X0_raiseRanks : z_Yv yX0_raiseRanks := ⟨m_549, m_21⟩
theorem v_X0_settle : z_Yv yX0_settle := ⟨m_539, m_540⟩
theorem v_X3_lastEnd : z_Yv yX3_lastEnd := ⟨m_583, m_584⟩
theorem v_X3_addVoyage : z_Yv yX3_addVoyage := ⟨m_587, m_588⟩
theorem v_X3_addClaim : z_Yv yX3_addClaim := ⟨m_598, m_599⟩
theorem v_X4_isClaim : z_Yv yX4_isClaim := ⟨m_607, m_22⟩
theorem v_X3_voyageOf : z_Yv yX3_voyageOf := ⟨m_632, m_633⟩
theorem v_X3_lastUnbarred : z_Yv yX3_lastUnbarred := ⟨m_652, m_23⟩
theorem v_X3_lacksLeave : z_Yv yX3_lacksLeave := ⟨m_659, m_24⟩
theorem v_X3_whyDead : z_Yv yX3_whyDead := ⟨m_647, m_648⟩
theorem v_X3_lastAlive : z_Yv yX3_lastAlive := ⟨m_667, m_668⟩
theorem v_X0_standingOf : z_Yv yX0_standingOf := ⟨m_681, m_682⟩
theorem v_X3_standing : z_Yv yX3_standing := ⟨m_676, m_677⟩
theorem v_X0_fundsFor : z_Yv yX0_fundsFor := ⟨m_696, m_697⟩
theorem v_X2_joinLine : z_Yv yX2_joinLine := ⟨m_703, m_25⟩
theorem v_X2_lineUp : z_Yv yX2_lineUp := ⟨m_692, m_693⟩
theorem v_X2_stepOf : z_Yv yX2_stepOf := ⟨m_706, m_707⟩
theorem v_X2_payFund : z_Yv yX2_payFund := ⟨m_736, m_27⟩
theorem v_X2_payAllFrom : z_Yv yX2_payAllFrom := ⟨m_732, m_26⟩
theorem v_X2_wantedOf : z_Yv yX2_wantedOf := ⟨m_751, m_30⟩
theorem v_X2_mostPayable : z_Yv yX2_mostPayable := ⟨m_747, m_29⟩
theorem v_X2_swapFunds : z_Yv yX2_swapFunds := ⟨m_760, m_32⟩
theorem v_X2_nextOrder : z_Yv yX2_nextOrder := ⟨m_756, m_31⟩
theorem v_X2_marshal : z_Yv yX2_marshal := ⟨m_743, m_28⟩
theorem v_X2_run : z_Yv yX2_run := ⟨m_718, m_719⟩
theorem v_X2_paidTo : z_Yv yX2_paidTo := ⟨m_763, m_764⟩
theorem v_X2_holding : z_Yv yX2_holding := ⟨m_779, m_780⟩
theorem v_X2_paidInAll : z_Yv yX2_paidInAll := ⟨m_775, m_776⟩
theorem v_X2_paidForShip : z_Yv yX2_paidForShip := ⟨m_796, m_33⟩
theorem v_X2_giveBack : z_Yv yX2_giveBack := ⟨m_791, m_792⟩
theorem v_X3_become : z_Yv yX3_become := ⟨m_803, m_804⟩
theorem v_X3_takeAway : z_Yv yX3_takeAway := ⟨m_824, m_825⟩
theorem v_X4_holdingWithout : z_Yv yX4_holdingWithout := ⟨m_821, m_34⟩
theorem v_X4_canSailAgain : z_Yv yX4_canSailAgain := ⟨m_833, m_35⟩
theorem v_X4_supposeVoyage : z_Yv yX4_supposeVoyage := ⟨m_837, m_36⟩
theorem v_X4_worthFor : z_Yv yX4_worthFor := ⟨m_845, m_38⟩
theorem v_X4_wiseFor : z_Yv yX4_wiseFor := ⟨m_841, m_37⟩
theorem v_X4_hangsOn : z_Yv yX4_hangsOn := ⟨m_853, m_39⟩
theorem v_X5_areAlike : z_Yv yX5_areAlike := ⟨m_889, m_43⟩
theorem v_X5_levelRanks : z_Yv yX5_levelRanks := ⟨m_893, m_44⟩
theorem v_X5_findRanks : z_Yv yX5_findRanks := ⟨m_885, m_42⟩
theorem v_X5_bare : z_Yv yX5_bare := ⟨m_877, m_40⟩
theorem v_X5_keepLaw : z_Yv yX5_keepLaw := ⟨m_881, m_41⟩
theorem v_X5_here : z_Yv yX5_here := ⟨m_1063, m_46⟩
theorem v_X5_readWord : z_Yv yX5_readWord := ⟨m_1071, m_48⟩
theorem v_X5_clauseOf : z_Yv yX5_clauseOf := ⟨m_1081, m_49⟩
theorem v_X5_kindOf : z_Yv yX5_kindOf := ⟨m_1103, m_53⟩
theorem v_X5_fails : z_Yv yX5_fails := ⟨m_1091, m_50⟩
theorem v_X5_takeKind : z_Yv yX5_takeKind := ⟨m_1099, m_52⟩
theorem v_X5_takeNumber : z_Yv yX5_takeNumber := ⟨m_1119, m_57⟩
theorem v_X5_takeOfKind : z_Yv yX5_takeOfKind := ⟨m_1129, m_59⟩
theorem v_X5_withinOf : z_Yv yX5_withinOf := ⟨m_1125, m_58⟩
theorem v_X5_takeOnce : z_Yv yX5_takeOnce := ⟨m_1115, m_56⟩
theorem v_X5_takeAhead : z_Yv yX5_takeAhead := ⟨m_1111, m_55⟩
theorem v_X5_fundOf : z_Yv yX5_fundOf := ⟨m_1107, m_54⟩
theorem v_X5_takeRides : z_Yv yX5_takeRides := ⟨m_1095, m_51⟩
theorem v_X5_takeClause : z_Yv yX5_takeClause := ⟨m_1067, m_47⟩
theorem v_X5_ring : z_Yv yX5_ring := ⟨m_1145, m_60⟩
theorem v_X5_putClaim : z_Yv yX5_putClaim := ⟨m_1174, m_61⟩
theorem v_X5_isClaim : z_Yv yX5_isClaim := ⟨m_1182, m_62⟩
theorem v_X5_voyageOf : z_Yv yX5_voyageOf := ⟨m_1211, m_63⟩
theorem v_X5_why : z_Yv yX5_why := ⟨m_1223, m_64⟩
theorem v_X5_order2 : z_Yv yX5_order2 := ⟨m_1235, m_65⟩
theorem v_X5_isOn : z_Yv yX5_isOn := ⟨m_1247, m_67⟩
theorem v_X5_isThere : z_Yv yX5_isThere := ⟨m_1243, m_66⟩
theorem v_X5_wants : z_Yv yX5_wants := ⟨m_1274, m_72⟩
theorem v_X5_isWanting : z_Yv yX5_isWanting := ⟨m_1270, m_71⟩
theorem v_X5_findStep : z_Yv yX5_findStep := ⟨m_1266, m_70⟩
theorem v_X5_pay : z_Yv yX5_pay := ⟨m_1282, m_74⟩
theorem v_X5_payStep : z_Yv yX5_payStep := ⟨m_1278, m_73⟩
theorem v_X5_payAll : z_Yv yX5_payAll := ⟨m_1262, m_69⟩
theorem v_X5_payOut : z_Yv yX5_payOut := ⟨m_1258, m_68⟩
theorem v_X5_having : z_Yv yX5_having := ⟨m_1294, m_75⟩
theorem v_X5_hanging : z_Yv yX5_hanging := ⟨m_1332, m_76⟩
theorem v_J0_coder_7d493 : z_Yv yJ0_coder_7d493 := ⟨m_418, m_419⟩
theorem v_J0_isLatin1_aae02 : z_Yv yJ0_isLatin1_aae02 := ⟨m_432, m_433⟩
theorem v_J0_length_8abf5 : z_Yv yJ0_length_8abf5 := ⟨m_414, m_415⟩
theorem v_J0_charAt_5068e : z_Yv yJ0_charAt_5068e := ⟨m_428, m_429⟩
