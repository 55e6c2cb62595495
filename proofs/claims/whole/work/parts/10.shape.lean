/-! the heap as the constructors leave it: the shapes -/
def g_SH : List g_Sh := [
  .inr (.inr (11, [some (some 1), some (some 15), some (some 44), some (some 45), some (some 47), some (some 52), some (some 134), some (some 137), some (some 149), some (some 156), some (some 168), some (some 175), some (some 198), none, none, none])),
  .inr (.inr (8, [some (some 2), some (some 4), some (some 6), some (some 7)])),
  .inr (.inr (0, [some (some 3), none])),
  .inl (0, 40),
  .inr (.inr (0, [some (some 5), none])),
  .inl (0, 40),
  .inl (0, 4),
  .inr (.inr (2, [some (some 8), some (some 9), some (some 10), some (some 11), some (some 12), some (some 14), none, none, none, none])),
  .inl (0, 40),
  .inl (0, 20),
  .inl (0, 40),
  .inl (0, 20),
  .inr (.inr (0, [some (some 13), none])),
  .inl (0, 160),
  .inl (0, 4),
  .inr (.inl (2, 2, fun j => if j < 2 then some (16 + 14 * j) else none)),
  .inr (.inr (8, [some (some 17), some (some 19), some (some 21), some (some 22)])),
  .inr (.inr (0, [some (some 18), none])),
  .inl (0, 40),
  .inr (.inr (0, [some (some 20), none])),
  .inl (0, 40),
  .inl (0, 4),
  .inr (.inr (2, [some (some 23), some (some 24), some (some 25), some (some 26), some (some 27), some (some 29), none, none, none, none])),
  .inl (0, 40),
  .inl (0, 20),
  .inl (0, 40),
  .inl (0, 20),
  .inr (.inr (0, [some (some 28), none])),
  .inl (0, 160),
  .inl (0, 4),
  .inr (.inr (8, [some (some 31), some (some 33), some (some 35), some (some 36)])),
  .inr (.inr (0, [some (some 32), none])),
  .inl (0, 40),
  .inr (.inr (0, [some (some 34), none])),
  .inl (0, 40),
  .inl (0, 4),
  .inr (.inr (2, [some (some 37), some (some 38), some (some 39), some (some 40), some (some 41), some (some 43), none, none, none, none])),
  .inl (0, 40),
  .inl (0, 20),
  .inl (0, 40),
  .inl (0, 20),
  .inr (.inr (0, [some (some 42), none])),
  .inl (0, 160),
  .inl (0, 4),
  .inl (1, 2),
  .inr (.inr (0, [some (some 46), none])),
  .inl (0, 160),
  .inr (.inr (5, [some (some 48), some (some 49), some (some 50), some (some 51), none, none, none, none, none])),
  .inl (0, 36),
  .inl (0, 36),
  .inl (0, 36),
  .inl (0, 36),
  .inr (.inr (3, [some (some 53), none, none])),
  .inr (.inl (3, 10, fun j => if j < 10 then some (54 + 8 * j) else none)),
  .inr (.inr (2, [some (some 55), some (some 56), some (some 57), some (some 58), some (some 59), some (some 61), none, none, none, none])),
  .inl (0, 40),
  .inl (0, 20),
  .inl (0, 40),
  .inl (0, 20),
  .inr (.inr (0, [some (some 60), none])),
  .inl (0, 160),
  .inl (0, 4),
  .inr (.inr (2, [some (some 63), some (some 64), some (some 65), some (some 66), some (some 67), some (some 69), none, none, none, none])),
  .inl (0, 40),
  .inl (0, 20),
  .inl (0, 40),
  .inl (0, 20),
  .inr (.inr (0, [some (some 68), none])),
  .inl (0, 160),
  .inl (0, 4),
  .inr (.inr (2, [some (some 71), some (some 72), some (some 73), some (some 74), some (some 75), some (some 77), none, none, none, none])),
  .inl (0, 40),
  .inl (0, 20),
  .inl (0, 40),
  .inl (0, 20),
  .inr (.inr (0, [some (some 76), none])),
  .inl (0, 160),
  .inl (0, 4),
  .inr (.inr (2, [some (some 79), some (some 80), some (some 81), some (some 82), some (some 83), some (some 85), none, none, none, none])),
  .inl (0, 40),
  .inl (0, 20),
  .inl (0, 40),
  .inl (0, 20),
  .inr (.inr (0, [some (some 84), none])),
  .inl (0, 160),
  .inl (0, 4),
  .inr (.inr (2, [some (some 87), some (some 88), some (some 89), some (some 90), some (some 91), some (some 93), none, none, none, none])),
  .inl (0, 40),
  .inl (0, 20),
  .inl (0, 40),
  .inl (0, 20),
  .inr (.inr (0, [some (some 92), none])),
  .inl (0, 160),
  .inl (0, 4),
  .inr (.inr (2, [some (some 95), some (some 96), some (some 97), some (some 98), some (some 99), some (some 101), none, none, none, none])),
  .inl (0, 40),
  .inl (0, 20),
  .inl (0, 40),
  .inl (0, 20),
  .inr (.inr (0, [some (some 100), none])),
  .inl (0, 160),
  .inl (0, 4),
  .inr (.inr (2, [some (some 103), some (some 104), some (some 105), some (some 106), some (some 107), some (some 109), none, none, none, none])),
  .inl (0, 40),
  .inl (0, 20),
  .inl (0, 40),
  .inl (0, 20),
  .inr (.inr (0, [some (some 108), none])),
  .inl (0, 160),
  .inl (0, 4),
  .inr (.inr (2, [some (some 111), some (some 112), some (some 113), some (some 114), some (some 115), some (some 117), none, none, none, none])),
  .inl (0, 40),
  .inl (0, 20),
  .inl (0, 40),
  .inl (0, 20),
  .inr (.inr (0, [some (some 116), none])),
  .inl (0, 160),
  .inl (0, 4),
  .inr (.inr (2, [some (some 119), some (some 120), some (some 121), some (some 122), some (some 123), some (some 125), none, none, none, none])),
  .inl (0, 40),
  .inl (0, 20),
  .inl (0, 40),
  .inl (0, 20),
  .inr (.inr (0, [some (some 124), none])),
  .inl (0, 160),
  .inl (0, 4),
  .inr (.inr (2, [some (some 127), some (some 128), some (some 129), some (some 130), some (some 131), some (some 133), none, none, none, none])),
  .inl (0, 40),
  .inl (0, 20),
  .inl (0, 40),
  .inl (0, 20),
  .inr (.inr (0, [some (some 132), none])),
  .inl (0, 160),
  .inl (0, 4),
  .inr (.inr (9, [some (some 135), some (some 136), none])),
  .inl (0, 40),
  .inl (0, 40),
  .inr (.inr (7, [some (some 138), some (some 139), some (some 140), some (some 141), some (some 142), some (some 143), some (some 147), some (some 148), none, none, none, none])),
  .inl (0, 20),
  .inl (0, 20),
  .inl (0, 20),
  .inl (0, 20),
  .inl (0, 20),
  .inr (.inr (6, [some (some 144), some (some 145), some (some 146), none, none, none, none, none, none])),
  .inl (0, 20),
  .inl (0, 21),
  .inl (0, 20),
  .inl (0, 41),
  .inl (0, 41),
  .inr (.inr (4, [some (some 150), some (some 151), some (some 152), some (some 153), some (some 154), none, none, none, none, none, none, none])),
  .inl (0, 40),
  .inl (0, 40),
  .inl (0, 40),
  .inl (0, 20),
  .inr (.inr (0, [some (some 155), none])),
  .inl (0, 160),
  .inr (.inr (7, [some (some 157), some (some 158), some (some 159), some (some 160), some (some 161), some (some 162), some (some 166), some (some 167), none, none, none, none])),
  .inl (0, 20),
  .inl (0, 20),
  .inl (0, 20),
  .inl (0, 20),
  .inl (0, 20),
  .inr (.inr (6, [some (some 163), some (some 164), some (some 165), none, none, none, none, none, none])),
  .inl (0, 20),
  .inl (0, 21),
  .inl (0, 20),
  .inl (0, 41),
  .inl (0, 41),
  .inr (.inr (4, [some (some 169), some (some 170), some (some 171), some (some 172), some (some 173), none, none, none, none, none, none, none])),
  .inl (0, 40),
  .inl (0, 40),
  .inl (0, 40),
  .inl (0, 20),
  .inr (.inr (0, [some (some 174), none])),
  .inl (0, 160),
  .inr (.inr (1, [some (some 176), some (some 181), some (some 183), some (some 184), none, some (some 185), some (some 186), some (some 187), some (some 188), some (some 196), some (some 197)])),
  .inr (.inr (5, [some (some 177), some (some 178), some (some 179), some (some 180), none, none, none, none, none])),
  .inl (0, 36),
  .inl (0, 36),
  .inl (0, 36),
  .inl (0, 36),
  .inr (.inr (0, [some (some 182), none])),
  .inl (0, 160),
  .inl (0, 360),
  .inl (0, 360),
  .inl (0, 3610),
  .inl (0, 361),
  .inl (0, 740),
  .inr (.inr (2, [some (some 189), some (some 190), some (some 191), some (some 192), some (some 193), some (some 195), none, none, none, none])),
  .inl (0, 40),
  .inl (0, 20),
  .inl (0, 40),
  .inl (0, 20),
  .inr (.inr (0, [some (some 194), none])),
  .inl (0, 160),
  .inl (0, 4),
  .inl (0, 4),
  .inl (0, 10),
  .inr (.inr (10, [some (some 199), some (some 207)])),
  .inr (.inr (2, [some (some 200), some (some 201), some (some 202), some (some 203), some (some 204), some (some 206), none, none, none, none])),
  .inl (0, 40),
  .inl (0, 20),
  .inl (0, 40),
  .inl (0, 20),
  .inr (.inr (0, [some (some 205), none])),
  .inl (0, 160),
  .inl (0, 4),
  .inl (0, 4),
  .inr (.inr (12, [none, some (some 209), some (some 210), some (some 211), some (some 212), none, some (some 213), some (some 214), some (some 215), some (some 216), some (some 217), some (some 218), some (some 219), some (some 220), none, some (some 221), some (some 222), some (some 223), some (some 224), some (some 225), some (some 226), some (some 227), some (some 228), some (some 229), some (some 230), some (some 231), none, none, none, none, none, some (some 232), some (some 233), some (some 234), none, none, none, none, none, none, none, none, some (some 235), some (some 236), some (some 237), some (some 238), none, some (some 239), some (some 240), some (some 241), none])),
  .inl (0, 1557),
  .inl (0, 4320),
  .inl (1, 2),
  .inl (0, 160),
  .inl (0, 40),
  .inl (0, 41),
  .inl (0, 41),
  .inl (0, 40),
  .inl (0, 40),
  .inl (0, 40),
  .inl (0, 40),
  .inl (1, 1600),
  .inl (0, 40),
  .inl (1, 40),
  .inl (0, 40),
  .inl (1, 40),
  .inl (1, 40),
  .inl (1, 40),
  .inl (1, 20),
  .inl (0, 40),
  .inl (0, 80),
  .inl (0, 80),
  .inl (0, 400),
  .inl (0, 144),
  .inl (0, 160),
  .inl (0, 400),
  .inl (0, 400),
  .inl (0, 400),
  .inl (0, 24060),
  .inl (0, 401),
  .inl (0, 60),
  .inl (0, 4),
  .inl (0, 4)]
set_option maxRecDepth 20000 in
theorem g_SHlen : g_SH.length = 242 := rfl
theorem sh_0 : g_SH[0]? = some (.inr (.inr (11, [some (some 1), some (some 15), some (some 44), some (some 45), some (some 47), some (some 52), some (some 134), some (some 137), some (some 149), some (some 156), some (some 168), some (some 175), some (some 198), none, none, none]))) := rfl
theorem sh_1 : g_SH[1]? = some (.inr (.inr (8, [some (some 2), some (some 4), some (some 6), some (some 7)]))) := rfl
theorem sh_2 : g_SH[2]? = some (.inr (.inr (0, [some (some 3), none]))) := rfl
theorem sh_3 : g_SH[3]? = some (.inl (0, 40)) := rfl
theorem sh_4 : g_SH[4]? = some (.inr (.inr (0, [some (some 5), none]))) := rfl
theorem sh_5 : g_SH[5]? = some (.inl (0, 40)) := rfl
theorem sh_6 : g_SH[6]? = some (.inl (0, 4)) := rfl
theorem sh_7 : g_SH[7]? = some (.inr (.inr (2, [some (some 8), some (some 9), some (some 10), some (some 11), some (some 12), some (some 14), none, none, none, none]))) := rfl
theorem sh_8 : g_SH[8]? = some (.inl (0, 40)) := rfl
theorem sh_9 : g_SH[9]? = some (.inl (0, 20)) := rfl
theorem sh_10 : g_SH[10]? = some (.inl (0, 40)) := rfl
theorem sh_11 : g_SH[11]? = some (.inl (0, 20)) := rfl
theorem sh_12 : g_SH[12]? = some (.inr (.inr (0, [some (some 13), none]))) := rfl
theorem sh_13 : g_SH[13]? = some (.inl (0, 160)) := rfl
theorem sh_14 : g_SH[14]? = some (.inl (0, 4)) := rfl
theorem sh_15 : g_SH[15]? = some (.inr (.inl (2, 2, fun j => if j < 2 then some (16 + 14 * j) else none))) := rfl
theorem sh_16 : g_SH[16]? = some (.inr (.inr (8, [some (some 17), some (some 19), some (some 21), some (some 22)]))) := rfl
theorem sh_17 : g_SH[17]? = some (.inr (.inr (0, [some (some 18), none]))) := rfl
theorem sh_18 : g_SH[18]? = some (.inl (0, 40)) := rfl
theorem sh_19 : g_SH[19]? = some (.inr (.inr (0, [some (some 20), none]))) := rfl
theorem sh_20 : g_SH[20]? = some (.inl (0, 40)) := rfl
theorem sh_21 : g_SH[21]? = some (.inl (0, 4)) := rfl
theorem sh_22 : g_SH[22]? = some (.inr (.inr (2, [some (some 23), some (some 24), some (some 25), some (some 26), some (some 27), some (some 29), none, none, none, none]))) := rfl
theorem sh_23 : g_SH[23]? = some (.inl (0, 40)) := rfl
theorem sh_24 : g_SH[24]? = some (.inl (0, 20)) := rfl
theorem sh_25 : g_SH[25]? = some (.inl (0, 40)) := rfl
theorem sh_26 : g_SH[26]? = some (.inl (0, 20)) := rfl
theorem sh_27 : g_SH[27]? = some (.inr (.inr (0, [some (some 28), none]))) := rfl
theorem sh_28 : g_SH[28]? = some (.inl (0, 160)) := rfl
theorem sh_29 : g_SH[29]? = some (.inl (0, 4)) := rfl
theorem sh_30 : g_SH[30]? = some (.inr (.inr (8, [some (some 31), some (some 33), some (some 35), some (some 36)]))) := rfl
theorem sh_31 : g_SH[31]? = some (.inr (.inr (0, [some (some 32), none]))) := rfl
theorem sh_32 : g_SH[32]? = some (.inl (0, 40)) := rfl
theorem sh_33 : g_SH[33]? = some (.inr (.inr (0, [some (some 34), none]))) := rfl
theorem sh_34 : g_SH[34]? = some (.inl (0, 40)) := rfl
theorem sh_35 : g_SH[35]? = some (.inl (0, 4)) := rfl
theorem sh_36 : g_SH[36]? = some (.inr (.inr (2, [some (some 37), some (some 38), some (some 39), some (some 40), some (some 41), some (some 43), none, none, none, none]))) := rfl
theorem sh_37 : g_SH[37]? = some (.inl (0, 40)) := rfl
theorem sh_38 : g_SH[38]? = some (.inl (0, 20)) := rfl
theorem sh_39 : g_SH[39]? = some (.inl (0, 40)) := rfl
theorem sh_40 : g_SH[40]? = some (.inl (0, 20)) := rfl
theorem sh_41 : g_SH[41]? = some (.inr (.inr (0, [some (some 42), none]))) := rfl
theorem sh_42 : g_SH[42]? = some (.inl (0, 160)) := rfl
theorem sh_43 : g_SH[43]? = some (.inl (0, 4)) := rfl
theorem sh_44 : g_SH[44]? = some (.inl (1, 2)) := rfl
theorem sh_45 : g_SH[45]? = some (.inr (.inr (0, [some (some 46), none]))) := rfl
theorem sh_46 : g_SH[46]? = some (.inl (0, 160)) := rfl
theorem sh_47 : g_SH[47]? = some (.inr (.inr (5, [some (some 48), some (some 49), some (some 50), some (some 51), none, none, none, none, none]))) := rfl
theorem sh_48 : g_SH[48]? = some (.inl (0, 36)) := rfl
theorem sh_49 : g_SH[49]? = some (.inl (0, 36)) := rfl
theorem sh_50 : g_SH[50]? = some (.inl (0, 36)) := rfl
theorem sh_51 : g_SH[51]? = some (.inl (0, 36)) := rfl
theorem sh_52 : g_SH[52]? = some (.inr (.inr (3, [some (some 53), none, none]))) := rfl
theorem sh_53 : g_SH[53]? = some (.inr (.inl (3, 10, fun j => if j < 10 then some (54 + 8 * j) else none))) := rfl
theorem sh_54 : g_SH[54]? = some (.inr (.inr (2, [some (some 55), some (some 56), some (some 57), some (some 58), some (some 59), some (some 61), none, none, none, none]))) := rfl
theorem sh_55 : g_SH[55]? = some (.inl (0, 40)) := rfl
theorem sh_56 : g_SH[56]? = some (.inl (0, 20)) := rfl
theorem sh_57 : g_SH[57]? = some (.inl (0, 40)) := rfl
theorem sh_58 : g_SH[58]? = some (.inl (0, 20)) := rfl
theorem sh_59 : g_SH[59]? = some (.inr (.inr (0, [some (some 60), none]))) := rfl
theorem sh_60 : g_SH[60]? = some (.inl (0, 160)) := rfl
theorem sh_61 : g_SH[61]? = some (.inl (0, 4)) := rfl
theorem sh_62 : g_SH[62]? = some (.inr (.inr (2, [some (some 63), some (some 64), some (some 65), some (some 66), some (some 67), some (some 69), none, none, none, none]))) := rfl
theorem sh_63 : g_SH[63]? = some (.inl (0, 40)) := rfl
theorem sh_64 : g_SH[64]? = some (.inl (0, 20)) := rfl
theorem sh_65 : g_SH[65]? = some (.inl (0, 40)) := rfl
theorem sh_66 : g_SH[66]? = some (.inl (0, 20)) := rfl
theorem sh_67 : g_SH[67]? = some (.inr (.inr (0, [some (some 68), none]))) := rfl
theorem sh_68 : g_SH[68]? = some (.inl (0, 160)) := rfl
theorem sh_69 : g_SH[69]? = some (.inl (0, 4)) := rfl
theorem sh_70 : g_SH[70]? = some (.inr (.inr (2, [some (some 71), some (some 72), some (some 73), some (some 74), some (some 75), some (some 77), none, none, none, none]))) := rfl
theorem sh_71 : g_SH[71]? = some (.inl (0, 40)) := rfl
theorem sh_72 : g_SH[72]? = some (.inl (0, 20)) := rfl
theorem sh_73 : g_SH[73]? = some (.inl (0, 40)) := rfl
theorem sh_74 : g_SH[74]? = some (.inl (0, 20)) := rfl
theorem sh_75 : g_SH[75]? = some (.inr (.inr (0, [some (some 76), none]))) := rfl
theorem sh_76 : g_SH[76]? = some (.inl (0, 160)) := rfl
theorem sh_77 : g_SH[77]? = some (.inl (0, 4)) := rfl
theorem sh_78 : g_SH[78]? = some (.inr (.inr (2, [some (some 79), some (some 80), some (some 81), some (some 82), some (some 83), some (some 85), none, none, none, none]))) := rfl
theorem sh_79 : g_SH[79]? = some (.inl (0, 40)) := rfl
theorem sh_80 : g_SH[80]? = some (.inl (0, 20)) := rfl
theorem sh_81 : g_SH[81]? = some (.inl (0, 40)) := rfl
theorem sh_82 : g_SH[82]? = some (.inl (0, 20)) := rfl
theorem sh_83 : g_SH[83]? = some (.inr (.inr (0, [some (some 84), none]))) := rfl
theorem sh_84 : g_SH[84]? = some (.inl (0, 160)) := rfl
theorem sh_85 : g_SH[85]? = some (.inl (0, 4)) := rfl
theorem sh_86 : g_SH[86]? = some (.inr (.inr (2, [some (some 87), some (some 88), some (some 89), some (some 90), some (some 91), some (some 93), none, none, none, none]))) := rfl
theorem sh_87 : g_SH[87]? = some (.inl (0, 40)) := rfl
theorem sh_88 : g_SH[88]? = some (.inl (0, 20)) := rfl
theorem sh_89 : g_SH[89]? = some (.inl (0, 40)) := rfl
theorem sh_90 : g_SH[90]? = some (.inl (0, 20)) := rfl
theorem sh_91 : g_SH[91]? = some (.inr (.inr (0, [some (some 92), none]))) := rfl
theorem sh_92 : g_SH[92]? = some (.inl (0, 160)) := rfl
theorem sh_93 : g_SH[93]? = some (.inl (0, 4)) := rfl
theorem sh_94 : g_SH[94]? = some (.inr (.inr (2, [some (some 95), some (some 96), some (some 97), some (some 98), some (some 99), some (some 101), none, none, none, none]))) := rfl
theorem sh_95 : g_SH[95]? = some (.inl (0, 40)) := rfl
theorem sh_96 : g_SH[96]? = some (.inl (0, 20)) := rfl
theorem sh_97 : g_SH[97]? = some (.inl (0, 40)) := rfl
theorem sh_98 : g_SH[98]? = some (.inl (0, 20)) := rfl
theorem sh_99 : g_SH[99]? = some (.inr (.inr (0, [some (some 100), none]))) := rfl
theorem sh_100 : g_SH[100]? = some (.inl (0, 160)) := rfl
theorem sh_101 : g_SH[101]? = some (.inl (0, 4)) := rfl
theorem sh_102 : g_SH[102]? = some (.inr (.inr (2, [some (some 103), some (some 104), some (some 105), some (some 106), some (some 107), some (some 109), none, none, none, none]))) := rfl
theorem sh_103 : g_SH[103]? = some (.inl (0, 40)) := rfl
theorem sh_104 : g_SH[104]? = some (.inl (0, 20)) := rfl
theorem sh_105 : g_SH[105]? = some (.inl (0, 40)) := rfl
theorem sh_106 : g_SH[106]? = some (.inl (0, 20)) := rfl
theorem sh_107 : g_SH[107]? = some (.inr (.inr (0, [some (some 108), none]))) := rfl
theorem sh_108 : g_SH[108]? = some (.inl (0, 160)) := rfl
theorem sh_109 : g_SH[109]? = some (.inl (0, 4)) := rfl
theorem sh_110 : g_SH[110]? = some (.inr (.inr (2, [some (some 111), some (some 112), some (some 113), some (some 114), some (some 115), some (some 117), none, none, none, none]))) := rfl
theorem sh_111 : g_SH[111]? = some (.inl (0, 40)) := rfl
theorem sh_112 : g_SH[112]? = some (.inl (0, 20)) := rfl
theorem sh_113 : g_SH[113]? = some (.inl (0, 40)) := rfl
theorem sh_114 : g_SH[114]? = some (.inl (0, 20)) := rfl
theorem sh_115 : g_SH[115]? = some (.inr (.inr (0, [some (some 116), none]))) := rfl
theorem sh_116 : g_SH[116]? = some (.inl (0, 160)) := rfl
theorem sh_117 : g_SH[117]? = some (.inl (0, 4)) := rfl
theorem sh_118 : g_SH[118]? = some (.inr (.inr (2, [some (some 119), some (some 120), some (some 121), some (some 122), some (some 123), some (some 125), none, none, none, none]))) := rfl
theorem sh_119 : g_SH[119]? = some (.inl (0, 40)) := rfl
theorem sh_120 : g_SH[120]? = some (.inl (0, 20)) := rfl
theorem sh_121 : g_SH[121]? = some (.inl (0, 40)) := rfl
theorem sh_122 : g_SH[122]? = some (.inl (0, 20)) := rfl
theorem sh_123 : g_SH[123]? = some (.inr (.inr (0, [some (some 124), none]))) := rfl
theorem sh_124 : g_SH[124]? = some (.inl (0, 160)) := rfl
theorem sh_125 : g_SH[125]? = some (.inl (0, 4)) := rfl
theorem sh_126 : g_SH[126]? = some (.inr (.inr (2, [some (some 127), some (some 128), some (some 129), some (some 130), some (some 131), some (some 133), none, none, none, none]))) := rfl
theorem sh_127 : g_SH[127]? = some (.inl (0, 40)) := rfl
theorem sh_128 : g_SH[128]? = some (.inl (0, 20)) := rfl
theorem sh_129 : g_SH[129]? = some (.inl (0, 40)) := rfl
theorem sh_130 : g_SH[130]? = some (.inl (0, 20)) := rfl
theorem sh_131 : g_SH[131]? = some (.inr (.inr (0, [some (some 132), none]))) := rfl
theorem sh_132 : g_SH[132]? = some (.inl (0, 160)) := rfl
theorem sh_133 : g_SH[133]? = some (.inl (0, 4)) := rfl
theorem sh_134 : g_SH[134]? = some (.inr (.inr (9, [some (some 135), some (some 136), none]))) := rfl
theorem sh_135 : g_SH[135]? = some (.inl (0, 40)) := rfl
theorem sh_136 : g_SH[136]? = some (.inl (0, 40)) := rfl
theorem sh_137 : g_SH[137]? = some (.inr (.inr (7, [some (some 138), some (some 139), some (some 140), some (some 141), some (some 142), some (some 143), some (some 147), some (some 148), none, none, none, none]))) := rfl
theorem sh_138 : g_SH[138]? = some (.inl (0, 20)) := rfl
theorem sh_139 : g_SH[139]? = some (.inl (0, 20)) := rfl
theorem sh_140 : g_SH[140]? = some (.inl (0, 20)) := rfl
theorem sh_141 : g_SH[141]? = some (.inl (0, 20)) := rfl
theorem sh_142 : g_SH[142]? = some (.inl (0, 20)) := rfl
theorem sh_143 : g_SH[143]? = some (.inr (.inr (6, [some (some 144), some (some 145), some (some 146), none, none, none, none, none, none]))) := rfl
theorem sh_144 : g_SH[144]? = some (.inl (0, 20)) := rfl
theorem sh_145 : g_SH[145]? = some (.inl (0, 21)) := rfl
theorem sh_146 : g_SH[146]? = some (.inl (0, 20)) := rfl
theorem sh_147 : g_SH[147]? = some (.inl (0, 41)) := rfl
theorem sh_148 : g_SH[148]? = some (.inl (0, 41)) := rfl
theorem sh_149 : g_SH[149]? = some (.inr (.inr (4, [some (some 150), some (some 151), some (some 152), some (some 153), some (some 154), none, none, none, none, none, none, none]))) := rfl
theorem sh_150 : g_SH[150]? = some (.inl (0, 40)) := rfl
theorem sh_151 : g_SH[151]? = some (.inl (0, 40)) := rfl
theorem sh_152 : g_SH[152]? = some (.inl (0, 40)) := rfl
theorem sh_153 : g_SH[153]? = some (.inl (0, 20)) := rfl
theorem sh_154 : g_SH[154]? = some (.inr (.inr (0, [some (some 155), none]))) := rfl
theorem sh_155 : g_SH[155]? = some (.inl (0, 160)) := rfl
theorem sh_156 : g_SH[156]? = some (.inr (.inr (7, [some (some 157), some (some 158), some (some 159), some (some 160), some (some 161), some (some 162), some (some 166), some (some 167), none, none, none, none]))) := rfl
theorem sh_157 : g_SH[157]? = some (.inl (0, 20)) := rfl
theorem sh_158 : g_SH[158]? = some (.inl (0, 20)) := rfl
theorem sh_159 : g_SH[159]? = some (.inl (0, 20)) := rfl
theorem sh_160 : g_SH[160]? = some (.inl (0, 20)) := rfl
theorem sh_161 : g_SH[161]? = some (.inl (0, 20)) := rfl
theorem sh_162 : g_SH[162]? = some (.inr (.inr (6, [some (some 163), some (some 164), some (some 165), none, none, none, none, none, none]))) := rfl
theorem sh_163 : g_SH[163]? = some (.inl (0, 20)) := rfl
theorem sh_164 : g_SH[164]? = some (.inl (0, 21)) := rfl
theorem sh_165 : g_SH[165]? = some (.inl (0, 20)) := rfl
theorem sh_166 : g_SH[166]? = some (.inl (0, 41)) := rfl
theorem sh_167 : g_SH[167]? = some (.inl (0, 41)) := rfl
theorem sh_168 : g_SH[168]? = some (.inr (.inr (4, [some (some 169), some (some 170), some (some 171), some (some 172), some (some 173), none, none, none, none, none, none, none]))) := rfl
theorem sh_169 : g_SH[169]? = some (.inl (0, 40)) := rfl
theorem sh_170 : g_SH[170]? = some (.inl (0, 40)) := rfl
theorem sh_171 : g_SH[171]? = some (.inl (0, 40)) := rfl
theorem sh_172 : g_SH[172]? = some (.inl (0, 20)) := rfl
theorem sh_173 : g_SH[173]? = some (.inr (.inr (0, [some (some 174), none]))) := rfl
theorem sh_174 : g_SH[174]? = some (.inl (0, 160)) := rfl
theorem sh_175 : g_SH[175]? = some (.inr (.inr (1, [some (some 176), some (some 181), some (some 183), some (some 184), none, some (some 185), some (some 186), some (some 187), some (some 188), some (some 196), some (some 197)]))) := rfl
theorem sh_176 : g_SH[176]? = some (.inr (.inr (5, [some (some 177), some (some 178), some (some 179), some (some 180), none, none, none, none, none]))) := rfl
theorem sh_177 : g_SH[177]? = some (.inl (0, 36)) := rfl
theorem sh_178 : g_SH[178]? = some (.inl (0, 36)) := rfl
theorem sh_179 : g_SH[179]? = some (.inl (0, 36)) := rfl
theorem sh_180 : g_SH[180]? = some (.inl (0, 36)) := rfl
theorem sh_181 : g_SH[181]? = some (.inr (.inr (0, [some (some 182), none]))) := rfl
theorem sh_182 : g_SH[182]? = some (.inl (0, 160)) := rfl
theorem sh_183 : g_SH[183]? = some (.inl (0, 360)) := rfl
theorem sh_184 : g_SH[184]? = some (.inl (0, 360)) := rfl
theorem sh_185 : g_SH[185]? = some (.inl (0, 3610)) := rfl
theorem sh_186 : g_SH[186]? = some (.inl (0, 361)) := rfl
theorem sh_187 : g_SH[187]? = some (.inl (0, 740)) := rfl
theorem sh_188 : g_SH[188]? = some (.inr (.inr (2, [some (some 189), some (some 190), some (some 191), some (some 192), some (some 193), some (some 195), none, none, none, none]))) := rfl
theorem sh_189 : g_SH[189]? = some (.inl (0, 40)) := rfl
theorem sh_190 : g_SH[190]? = some (.inl (0, 20)) := rfl
theorem sh_191 : g_SH[191]? = some (.inl (0, 40)) := rfl
theorem sh_192 : g_SH[192]? = some (.inl (0, 20)) := rfl
theorem sh_193 : g_SH[193]? = some (.inr (.inr (0, [some (some 194), none]))) := rfl
theorem sh_194 : g_SH[194]? = some (.inl (0, 160)) := rfl
theorem sh_195 : g_SH[195]? = some (.inl (0, 4)) := rfl
theorem sh_196 : g_SH[196]? = some (.inl (0, 4)) := rfl
theorem sh_197 : g_SH[197]? = some (.inl (0, 10)) := rfl
theorem sh_198 : g_SH[198]? = some (.inr (.inr (10, [some (some 199), some (some 207)]))) := rfl
theorem sh_199 : g_SH[199]? = some (.inr (.inr (2, [some (some 200), some (some 201), some (some 202), some (some 203), some (some 204), some (some 206), none, none, none, none]))) := rfl
theorem sh_200 : g_SH[200]? = some (.inl (0, 40)) := rfl
theorem sh_201 : g_SH[201]? = some (.inl (0, 20)) := rfl
theorem sh_202 : g_SH[202]? = some (.inl (0, 40)) := rfl
theorem sh_203 : g_SH[203]? = some (.inl (0, 20)) := rfl
theorem sh_204 : g_SH[204]? = some (.inr (.inr (0, [some (some 205), none]))) := rfl
theorem sh_205 : g_SH[205]? = some (.inl (0, 160)) := rfl
theorem sh_206 : g_SH[206]? = some (.inl (0, 4)) := rfl
theorem sh_207 : g_SH[207]? = some (.inl (0, 4)) := rfl
theorem sh_208 : g_SH[208]? = some (.inr (.inr (12, [none, some (some 209), some (some 210), some (some 211), some (some 212), none, some (some 213), some (some 214), some (some 215), some (some 216), some (some 217), some (some 218), some (some 219), some (some 220), none, some (some 221), some (some 222), some (some 223), some (some 224), some (some 225), some (some 226), some (some 227), some (some 228), some (some 229), some (some 230), some (some 231), none, none, none, none, none, some (some 232), some (some 233), some (some 234), none, none, none, none, none, none, none, none, some (some 235), some (some 236), some (some 237), some (some 238), none, some (some 239), some (some 240), some (some 241), none]))) := rfl
theorem sh_209 : g_SH[209]? = some (.inl (0, 1557)) := rfl
theorem sh_210 : g_SH[210]? = some (.inl (0, 4320)) := rfl
theorem sh_211 : g_SH[211]? = some (.inl (1, 2)) := rfl
theorem sh_212 : g_SH[212]? = some (.inl (0, 160)) := rfl
theorem sh_213 : g_SH[213]? = some (.inl (0, 40)) := rfl
theorem sh_214 : g_SH[214]? = some (.inl (0, 41)) := rfl
theorem sh_215 : g_SH[215]? = some (.inl (0, 41)) := rfl
theorem sh_216 : g_SH[216]? = some (.inl (0, 40)) := rfl
theorem sh_217 : g_SH[217]? = some (.inl (0, 40)) := rfl
theorem sh_218 : g_SH[218]? = some (.inl (0, 40)) := rfl
theorem sh_219 : g_SH[219]? = some (.inl (0, 40)) := rfl
theorem sh_220 : g_SH[220]? = some (.inl (1, 1600)) := rfl
theorem sh_221 : g_SH[221]? = some (.inl (0, 40)) := rfl
theorem sh_222 : g_SH[222]? = some (.inl (1, 40)) := rfl
theorem sh_223 : g_SH[223]? = some (.inl (0, 40)) := rfl
theorem sh_224 : g_SH[224]? = some (.inl (1, 40)) := rfl
theorem sh_225 : g_SH[225]? = some (.inl (1, 40)) := rfl
theorem sh_226 : g_SH[226]? = some (.inl (1, 40)) := rfl
theorem sh_227 : g_SH[227]? = some (.inl (1, 20)) := rfl
theorem sh_228 : g_SH[228]? = some (.inl (0, 40)) := rfl
theorem sh_229 : g_SH[229]? = some (.inl (0, 80)) := rfl
theorem sh_230 : g_SH[230]? = some (.inl (0, 80)) := rfl
theorem sh_231 : g_SH[231]? = some (.inl (0, 400)) := rfl
theorem sh_232 : g_SH[232]? = some (.inl (0, 144)) := rfl
theorem sh_233 : g_SH[233]? = some (.inl (0, 160)) := rfl
theorem sh_234 : g_SH[234]? = some (.inl (0, 400)) := rfl
theorem sh_235 : g_SH[235]? = some (.inl (0, 400)) := rfl
theorem sh_236 : g_SH[236]? = some (.inl (0, 400)) := rfl
theorem sh_237 : g_SH[237]? = some (.inl (0, 24060)) := rfl
theorem sh_238 : g_SH[238]? = some (.inl (0, 401)) := rfl
theorem sh_239 : g_SH[239]? = some (.inl (0, 60)) := rfl
theorem sh_240 : g_SH[240]? = some (.inl (0, 4)) := rfl
theorem sh_241 : g_SH[241]? = some (.inl (0, 4)) := rfl
def is_Cells (sh : List g_Sh) (k : Nat) (n : Nat) : Prop := sh[k]? = some (.inr (.inr (0, [some (some (k + 1)), none]))) ∧ sh[(k + 1)]? = some (.inl (0, n))
def is_Device (sh : List g_Sh) (k : Nat) : Prop := sh[k]? = some (.inr (.inr (2, [some (some (k + 1)), some (some (k + 2)), some (some (k + 3)), some (some (k + 4)), some (some (k + 5)), some (some (k + 7)), none, none, none, none]))) ∧ sh[(k + 1)]? = some (.inl (0, 40)) ∧ sh[(k + 2)]? = some (.inl (0, 20)) ∧ sh[(k + 3)]? = some (.inl (0, 40)) ∧ sh[(k + 4)]? = some (.inl (0, 20)) ∧ sh[(k + 5)]? = some (.inr (.inr (0, [some (some ((k + 5) + 1)), none]))) ∧ sh[((k + 5) + 1)]? = some (.inl (0, 160)) ∧ sh[(k + 7)]? = some (.inl (0, 4))
def is_Reader (sh : List g_Sh) (k : Nat) : Prop := sh[k]? = some (.inr (.inr (5, [some (some (k + 1)), some (some (k + 2)), some (some (k + 3)), some (some (k + 4)), none, none, none, none, none]))) ∧ sh[(k + 1)]? = some (.inl (0, 36)) ∧ sh[(k + 2)]? = some (.inl (0, 36)) ∧ sh[(k + 3)]? = some (.inl (0, 36)) ∧ sh[(k + 4)]? = some (.inl (0, 36))
def is_State (sh : List g_Sh) (k : Nat) : Prop := sh[k]? = some (.inr (.inr (8, [some (some (k + 1)), some (some (k + 3)), some (some (k + 5)), some (some (k + 6))]))) ∧ sh[(k + 1)]? = some (.inr (.inr (0, [some (some ((k + 1) + 1)), none]))) ∧ sh[((k + 1) + 1)]? = some (.inl (0, 40)) ∧ sh[(k + 3)]? = some (.inr (.inr (0, [some (some ((k + 3) + 1)), none]))) ∧ sh[((k + 3) + 1)]? = some (.inl (0, 40)) ∧ sh[(k + 5)]? = some (.inl (0, 4)) ∧ sh[(k + 6)]? = some (.inr (.inr (2, [some (some ((k + 6) + 1)), some (some ((k + 6) + 2)), some (some ((k + 6) + 3)), some (some ((k + 6) + 4)), some (some ((k + 6) + 5)), some (some ((k + 6) + 7)), none, none, none, none]))) ∧ sh[((k + 6) + 1)]? = some (.inl (0, 40)) ∧ sh[((k + 6) + 2)]? = some (.inl (0, 20)) ∧ sh[((k + 6) + 3)]? = some (.inl (0, 40)) ∧ sh[((k + 6) + 4)]? = some (.inl (0, 20)) ∧ sh[((k + 6) + 5)]? = some (.inr (.inr (0, [some (some (((k + 6) + 5) + 1)), none]))) ∧ sh[(((k + 6) + 5) + 1)]? = some (.inl (0, 160)) ∧ sh[((k + 6) + 7)]? = some (.inl (0, 4))
def is_Script (sh : List g_Sh) (k : Nat) : Prop := sh[k]? = some (.inr (.inr (7, [some (some (k + 1)), some (some (k + 2)), some (some (k + 3)), some (some (k + 4)), some (some (k + 5)), some (some (k + 6)), some (some (k + 10)), some (some (k + 11)), none, none, none, none]))) ∧ sh[(k + 1)]? = some (.inl (0, 20)) ∧ sh[(k + 2)]? = some (.inl (0, 20)) ∧ sh[(k + 3)]? = some (.inl (0, 20)) ∧ sh[(k + 4)]? = some (.inl (0, 20)) ∧ sh[(k + 5)]? = some (.inl (0, 20)) ∧ sh[(k + 6)]? = some (.inr (.inr (6, [some (some ((k + 6) + 1)), some (some ((k + 6) + 2)), some (some ((k + 6) + 3)), none, none, none, none, none, none]))) ∧ sh[((k + 6) + 1)]? = some (.inl (0, 20)) ∧ sh[((k + 6) + 2)]? = some (.inl (0, 21)) ∧ sh[((k + 6) + 3)]? = some (.inl (0, 20)) ∧ sh[(k + 10)]? = some (.inl (0, 41)) ∧ sh[(k + 11)]? = some (.inl (0, 41))
def is_Rings (sh : List g_Sh) (k : Nat) : Prop := sh[k]? = some (.inr (.inr (6, [some (some (k + 1)), some (some (k + 2)), some (some (k + 3)), none, none, none, none, none, none]))) ∧ sh[(k + 1)]? = some (.inl (0, 20)) ∧ sh[(k + 2)]? = some (.inl (0, 21)) ∧ sh[(k + 3)]? = some (.inl (0, 20))
def is_Plan (sh : List g_Sh) (k : Nat) : Prop := sh[k]? = some (.inr (.inr (4, [some (some (k + 1)), some (some (k + 2)), some (some (k + 3)), some (some (k + 4)), some (some (k + 5)), none, none, none, none, none, none, none]))) ∧ sh[(k + 1)]? = some (.inl (0, 40)) ∧ sh[(k + 2)]? = some (.inl (0, 40)) ∧ sh[(k + 3)]? = some (.inl (0, 40)) ∧ sh[(k + 4)]? = some (.inl (0, 20)) ∧ sh[(k + 5)]? = some (.inr (.inr (0, [some (some ((k + 5) + 1)), none]))) ∧ sh[((k + 5) + 1)]? = some (.inl (0, 160))
