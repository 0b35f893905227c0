def LAY : pY := [(7, [2, 8, 14, 0, 20, 22, 26, 0, 27, 28, 30, 32, 34, 40, 43, 44, 45]), (5, [3, 4, 5, 0, 6, 0, 0]), (20, [7]), (20, [7]), (20, [7]), (3, [7, 0]), (20, [8]), (5, [9, 10, 11, 0, 12, 0, 0]), (20, [7]), (20, [7]), (20, [7]), (3, [13, 0]), (20, [8]), (5, [15, 16, 17, 0, 18, 0, 0]), (20, [7]), (20, [7]), (20, [7]), (3, [19, 0]), (20, [8]), (2, [21, 0]), (20, [96]), (0, [23, 24, 25, 0]), (20, [8]), (20, [8]), (20, [8]), (20, [16]), (20, [7]), (3, [29, 0]), (20, [8]), (3, [31, 0]), (20, [8]), (3, [33, 0]), (20, [8]), (6, [35, 36, 37, 38, 39, 0]), (21, [7]), (21, [7]), (21, [7]), (20, [7]), (20, [7]), (4, [41, 42, 0]), (22, [201]), (20, [201]), (1, [0, 0, 0]), (20, [5]), (20, [5]), (8, [0, 47, 48, 49, 0, 50, 0, 0, 0, 51, 52, 0, 53, 0, 0, 0, 0, 54, 55, 56, 57, 58, 0, 0, 0, 0, 59, 60, 0, 0, 0, 61, 62, 0, 63, 64, 65, 66, 67, 68, 69, 0, 70, 71, 72, 73, 74]), (20, [7]), (20, [7]), (20, [7]), (20, [8]), (20, [7]), (20, [8]), (20, [96]), (20, [49]), (20, [49]), (20, [147]), (20, [33]), (20, [33]), (20, [264]), (20, [33]), (20, [1608]), (20, [201]), (21, [8]), (21, [8]), (21, [8]), (20, [8]), (20, [8]), (20, [4]), (20, [16]), (20, [3]), (20, [5]), (20, [56]), (20, [3]), (20, [488])]
theorem L_0 : LAY[0]? = some (7, [2, 8, 14, 0, 20, 22, 26, 0, 27, 28, 30, 32, 34, 40, 43, 44, 45]) := rfl
theorem L_1 : LAY[1]? = some (5, [3, 4, 5, 0, 6, 0, 0]) := rfl
theorem L_2 : LAY[2]? = some (20, [7]) := rfl
theorem L_3 : LAY[3]? = some (20, [7]) := rfl
theorem L_4 : LAY[4]? = some (20, [7]) := rfl
theorem L_5 : LAY[5]? = some (3, [7, 0]) := rfl
theorem L_6 : LAY[6]? = some (20, [8]) := rfl
theorem L_7 : LAY[7]? = some (5, [9, 10, 11, 0, 12, 0, 0]) := rfl
theorem L_8 : LAY[8]? = some (20, [7]) := rfl
theorem L_9 : LAY[9]? = some (20, [7]) := rfl
theorem L_10 : LAY[10]? = some (20, [7]) := rfl
theorem L_11 : LAY[11]? = some (3, [13, 0]) := rfl
theorem L_12 : LAY[12]? = some (20, [8]) := rfl
theorem L_13 : LAY[13]? = some (5, [15, 16, 17, 0, 18, 0, 0]) := rfl
theorem L_14 : LAY[14]? = some (20, [7]) := rfl
theorem L_15 : LAY[15]? = some (20, [7]) := rfl
theorem L_16 : LAY[16]? = some (20, [7]) := rfl
theorem L_17 : LAY[17]? = some (3, [19, 0]) := rfl
theorem L_18 : LAY[18]? = some (20, [8]) := rfl
theorem L_19 : LAY[19]? = some (2, [21, 0]) := rfl
theorem L_20 : LAY[20]? = some (20, [96]) := rfl
theorem L_21 : LAY[21]? = some (0, [23, 24, 25, 0]) := rfl
theorem L_22 : LAY[22]? = some (20, [8]) := rfl
theorem L_23 : LAY[23]? = some (20, [8]) := rfl
theorem L_24 : LAY[24]? = some (20, [8]) := rfl
theorem L_25 : LAY[25]? = some (20, [16]) := rfl
theorem L_26 : LAY[26]? = some (20, [7]) := rfl
theorem L_27 : LAY[27]? = some (3, [29, 0]) := rfl
theorem L_28 : LAY[28]? = some (20, [8]) := rfl
theorem L_29 : LAY[29]? = some (3, [31, 0]) := rfl
theorem L_30 : LAY[30]? = some (20, [8]) := rfl
theorem L_31 : LAY[31]? = some (3, [33, 0]) := rfl
theorem L_32 : LAY[32]? = some (20, [8]) := rfl
theorem L_33 : LAY[33]? = some (6, [35, 36, 37, 38, 39, 0]) := rfl
theorem L_34 : LAY[34]? = some (21, [7]) := rfl
theorem L_35 : LAY[35]? = some (21, [7]) := rfl
theorem L_36 : LAY[36]? = some (21, [7]) := rfl
theorem L_37 : LAY[37]? = some (20, [7]) := rfl
theorem L_38 : LAY[38]? = some (20, [7]) := rfl
theorem L_39 : LAY[39]? = some (4, [41, 42, 0]) := rfl
theorem L_40 : LAY[40]? = some (22, [201]) := rfl
theorem L_41 : LAY[41]? = some (20, [201]) := rfl
theorem L_42 : LAY[42]? = some (1, [0, 0, 0]) := rfl
theorem L_43 : LAY[43]? = some (20, [5]) := rfl
theorem L_44 : LAY[44]? = some (20, [5]) := rfl
theorem L_45 : LAY[45]? = some (8, [0, 47, 48, 49, 0, 50, 0, 0, 0, 51, 52, 0, 53, 0, 0, 0, 0, 54, 55, 56, 57, 58, 0, 0, 0, 0, 59, 60, 0, 0, 0, 61, 62, 0, 63, 64, 65, 66, 67, 68, 69, 0, 70, 71, 72, 73, 74]) := rfl
theorem L_46 : LAY[46]? = some (20, [7]) := rfl
theorem L_47 : LAY[47]? = some (20, [7]) := rfl
theorem L_48 : LAY[48]? = some (20, [7]) := rfl
theorem L_49 : LAY[49]? = some (20, [8]) := rfl
theorem L_50 : LAY[50]? = some (20, [7]) := rfl
theorem L_51 : LAY[51]? = some (20, [8]) := rfl
theorem L_52 : LAY[52]? = some (20, [96]) := rfl
theorem L_53 : LAY[53]? = some (20, [49]) := rfl
theorem L_54 : LAY[54]? = some (20, [49]) := rfl
theorem L_55 : LAY[55]? = some (20, [147]) := rfl
theorem L_56 : LAY[56]? = some (20, [33]) := rfl
theorem L_57 : LAY[57]? = some (20, [33]) := rfl
theorem L_58 : LAY[58]? = some (20, [264]) := rfl
theorem L_59 : LAY[59]? = some (20, [33]) := rfl
theorem L_60 : LAY[60]? = some (20, [1608]) := rfl
theorem L_61 : LAY[61]? = some (20, [201]) := rfl
theorem L_62 : LAY[62]? = some (21, [8]) := rfl
theorem L_63 : LAY[63]? = some (21, [8]) := rfl
theorem L_64 : LAY[64]? = some (21, [8]) := rfl
theorem L_65 : LAY[65]? = some (20, [8]) := rfl
theorem L_66 : LAY[66]? = some (20, [8]) := rfl
theorem L_67 : LAY[67]? = some (20, [4]) := rfl
theorem L_68 : LAY[68]? = some (20, [16]) := rfl
theorem L_69 : LAY[69]? = some (20, [3]) := rfl
theorem L_70 : LAY[70]? = some (20, [5]) := rfl
theorem L_71 : LAY[71]? = some (20, [56]) := rfl
theorem L_72 : LAY[72]? = some (20, [3]) := rfl
theorem L_73 : LAY[73]? = some (20, [488]) := rfl
abbrev EV (d : Nat) (M : pM) (Q : Option pV → pG → Prop) (pc : Nat) (loc stk : List pV) (g : pG) : Prop := Ev (Ex d) X0 M LAY Q pc loc stk LAY g
abbrev CT (d : Nat) (M : pM) (as : List pV) (g : pG) (Q : Option pV → pG → Prop) : Prop := Ex d M as LAY g LAY Q
/-- a POINTS object, its numbers' row behind it -/
def isPts (t : Nat) : Prop := LAY[t]? = some (3, [t + 2, 0]) ∧ LAY[t + 1]? = some (20, [8])
/-- a SUIT, its rows and POINTS behind it -/
def isSt (s : Nat) : Prop := LAY[s]? = some (5, [s + 2, s + 3, s + 4, 0, s + 5, 0, 0]) ∧ LAY[s + 1]? = some (20, [7]) ∧ LAY[s + 2]? = some (20, [7]) ∧ LAY[s + 3]? = some (20, [7]) ∧ isPts (s + 4)
theorem pts_5 : isPts 5 := ⟨rfl, rfl⟩
theorem pts_11 : isPts 11 := ⟨rfl, rfl⟩
theorem pts_17 : isPts 17 := ⟨rfl, rfl⟩
theorem pts_27 : isPts 27 := ⟨rfl, rfl⟩
theorem pts_29 : isPts 29 := ⟨rfl, rfl⟩
theorem pts_31 : isPts 31 := ⟨rfl, rfl⟩
theorem st_1 : isSt 1 := ⟨rfl, rfl, rfl, rfl, rfl, rfl⟩
theorem st_7 : isSt 7 := ⟨rfl, rfl, rfl, rfl, rfl, rfl⟩
theorem st_13 : isSt 13 := ⟨rfl, rfl, rfl, rfl, rfl, rfl⟩
