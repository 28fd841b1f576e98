theorem inB_lt {i : Int32} {n : Nat} (h : inB i n = true) : i.toNatClampNeg < n := by
  simp only [inB, Bool.and_eq_true, decide_eq_true_eq] at h
  exact h.2
/-! the layout: which cell lies where -/
def LAY : List Sh := [.inr (.inr (11, [some (some 1), some (some 3), some (some 8), some (some 17), some (some 21), some (some 43), some (some 25), some (some 262), some (some 266), some (some 268), none, none, none])), .inr (.inr (7, [some (some 2), none, none, none, none, none, none, none])), .inl (0, 500), .inr (.inr (5, [some (some 4), none, none, none, none])), .inr (.inr (4, [none, none, none, none, some (some 5), some (some 6), some (some 7)])), .inl (0, 30), .inl (0, 30), .inl (0, 30), .inr (.inl (3, [some 9, some 13])), .inr (.inr (4, [none, none, none, none, some (some 10), some (some 11), some (some 12)])), .inl (0, 30), .inl (0, 30), .inl (0, 30), .inr (.inr (4, [none, none, none, none, some (some 14), some (some 15), some (some 16)])), .inl (0, 30), .inl (0, 30), .inl (0, 30), .inr (.inr (10, [some (some 18), some (some 19), some (some 20), none, none])), .inl (0, 20), .inl (0, 20), .inl (0, 20), .inr (.inr (10, [some (some 22), some (some 23), some (some 24), none, none])), .inl (0, 20), .inl (0, 20), .inl (0, 20), .inr (.inr (8, [some (some 26), some (some 27), some (some 28), some (some 29), some (some 30), some (some 31), some (some 32), some (some 34), some (some 36), some (some 38), some (some 40), some (some 41), some (some 42), none, none])), .inl (0, 1290), .inl (0, 1351), .inl (0, 1351), .inl (0, 1351), .inl (0, 1351), .inl (0, 1351), .inr (.inr (1, [none, some (some 33)])), .inl (0, 2), .inr (.inr (1, [none, some (some 35)])), .inl (0, 2), .inr (.inr (1, [none, some (some 37)])), .inl (0, 2), .inr (.inr (1, [none, some (some 39)])), .inl (0, 2), .inl (0, 4), .inl (0, 5), .inl (0, 20), .inr (.inr (3, [some (some 9), some (some 25), some (some 76), some (some 44), none, some (some 45), some (some 46), some (some 56), some (some 60), some (some 64), some (some 68), some (some 72), some (some 74), none, none, none, none, none])), .inr (.inl (5, [some 122, some 136, some 150, some 164, some 178, some 192, some 206, some 220, some 234, some 248])), .inr (.inl (6, [some 126, some 140, some 154, some 168, some 182, some 196, some 210, some 224, some 238, some 252])), .inr (.inr (6, [some (some 47), some (some 49), none, some (some 50), some (some 51), some (some 52), none, some (some 53), some (some 54), some (some 55), none])), .inr (.inr (1, [none, some (some 48)])), .inl (0, 2), .inl (0, 2), .inl (0, 2), .inl (0, 2), .inl (0, 2), .inl (0, 2), .inl (0, 10), .inl (0, 10), .inr (.inr (2, [some (some 57), some (some 58), some (some 59), none])), .inl (0, 60), .inl (0, 60), .inl (0, 60), .inr (.inr (10, [some (some 61), some (some 62), some (some 63), none, none])), .inl (0, 20), .inl (0, 20), .inl (0, 20), .inr (.inr (10, [some (some 65), some (some 66), some (some 67), none, none])), .inl (0, 20), .inl (0, 20), .inl (0, 20), .inr (.inr (10, [some (some 69), some (some 70), some (some 71), none, none])), .inl (0, 20), .inl (0, 20), .inl (0, 20), .inr (.inr (1, [none, some (some 73)])), .inl (0, 2), .inr (.inr (1, [none, some (some 75)])), .inl (0, 2), .inr (.inr (0, [some (some 9), some (some 77), none, some (some 78), some (some 79), some (some 80)])), .inr (.inl (5, [some 82, some 86, some 90, some 94, some 98, some 102, some 106, some 110, some 114, some 118])), .inl (0, 3), .inl (0, 3), .inr (.inr (1, [none, some (some 81)])), .inl (0, 2), .inr (.inr (10, [some (some 83), some (some 84), some (some 85), none, none])), .inl (0, 20), .inl (0, 20), .inl (0, 20), .inr (.inr (10, [some (some 87), some (some 88), some (some 89), none, none])), .inl (0, 20), .inl (0, 20), .inl (0, 20), .inr (.inr (10, [some (some 91), some (some 92), some (some 93), none, none])), .inl (0, 20), .inl (0, 20), .inl (0, 20), .inr (.inr (10, [some (some 95), some (some 96), some (some 97), none, none])), .inl (0, 20), .inl (0, 20), .inl (0, 20), .inr (.inr (10, [some (some 99), some (some 100), some (some 101), none, none])), .inl (0, 20), .inl (0, 20), .inl (0, 20), .inr (.inr (10, [some (some 103), some (some 104), some (some 105), none, none])), .inl (0, 20), .inl (0, 20), .inl (0, 20), .inr (.inr (10, [some (some 107), some (some 108), some (some 109), none, none])), .inl (0, 20), .inl (0, 20), .inl (0, 20), .inr (.inr (10, [some (some 111), some (some 112), some (some 113), none, none])), .inl (0, 20), .inl (0, 20), .inl (0, 20), .inr (.inr (10, [some (some 115), some (some 116), some (some 117), none, none])), .inl (0, 20), .inl (0, 20), .inl (0, 20), .inr (.inr (10, [some (some 119), some (some 120), some (some 121), none, none])), .inl (0, 20), .inl (0, 20), .inl (0, 20), .inr (.inr (10, [some (some 123), some (some 124), some (some 125), none, none])), .inl (0, 20), .inl (0, 20), .inl (0, 20), .inr (.inr (6, [some (some 127), some (some 129), none, some (some 130), some (some 131), some (some 132), none, some (some 133), some (some 134), some (some 135), none])), .inr (.inr (1, [none, some (some 128)])), .inl (0, 2), .inl (0, 2), .inl (0, 2), .inl (0, 2), .inl (0, 2), .inl (0, 2), .inl (0, 10), .inl (0, 10), .inr (.inr (10, [some (some 137), some (some 138), some (some 139), none, none])), .inl (0, 20), .inl (0, 20), .inl (0, 20), .inr (.inr (6, [some (some 141), some (some 143), none, some (some 144), some (some 145), some (some 146), none, some (some 147), some (some 148), some (some 149), none])), .inr (.inr (1, [none, some (some 142)])), .inl (0, 2), .inl (0, 2), .inl (0, 2), .inl (0, 2), .inl (0, 2), .inl (0, 2), .inl (0, 10), .inl (0, 10), .inr (.inr (10, [some (some 151), some (some 152), some (some 153), none, none])), .inl (0, 20), .inl (0, 20), .inl (0, 20), .inr (.inr (6, [some (some 155), some (some 157), none, some (some 158), some (some 159), some (some 160), none, some (some 161), some (some 162), some (some 163), none])), .inr (.inr (1, [none, some (some 156)])), .inl (0, 2), .inl (0, 2), .inl (0, 2), .inl (0, 2), .inl (0, 2), .inl (0, 2), .inl (0, 10), .inl (0, 10), .inr (.inr (10, [some (some 165), some (some 166), some (some 167), none, none])), .inl (0, 20), .inl (0, 20), .inl (0, 20), .inr (.inr (6, [some (some 169), some (some 171), none, some (some 172), some (some 173), some (some 174), none, some (some 175), some (some 176), some (some 177), none])), .inr (.inr (1, [none, some (some 170)])), .inl (0, 2), .inl (0, 2), .inl (0, 2), .inl (0, 2), .inl (0, 2), .inl (0, 2), .inl (0, 10), .inl (0, 10), .inr (.inr (10, [some (some 179), some (some 180), some (some 181), none, none])), .inl (0, 20), .inl (0, 20), .inl (0, 20), .inr (.inr (6, [some (some 183), some (some 185), none, some (some 186), some (some 187), some (some 188), none, some (some 189), some (some 190), some (some 191), none])), .inr (.inr (1, [none, some (some 184)])), .inl (0, 2), .inl (0, 2), .inl (0, 2), .inl (0, 2), .inl (0, 2), .inl (0, 2), .inl (0, 10), .inl (0, 10), .inr (.inr (10, [some (some 193), some (some 194), some (some 195), none, none])), .inl (0, 20), .inl (0, 20), .inl (0, 20), .inr (.inr (6, [some (some 197), some (some 199), none, some (some 200), some (some 201), some (some 202), none, some (some 203), some (some 204), some (some 205), none])), .inr (.inr (1, [none, some (some 198)])), .inl (0, 2), .inl (0, 2), .inl (0, 2), .inl (0, 2), .inl (0, 2), .inl (0, 2), .inl (0, 10), .inl (0, 10), .inr (.inr (10, [some (some 207), some (some 208), some (some 209), none, none])), .inl (0, 20), .inl (0, 20), .inl (0, 20), .inr (.inr (6, [some (some 211), some (some 213), none, some (some 214), some (some 215), some (some 216), none, some (some 217), some (some 218), some (some 219), none])), .inr (.inr (1, [none, some (some 212)])), .inl (0, 2), .inl (0, 2), .inl (0, 2), .inl (0, 2), .inl (0, 2), .inl (0, 2), .inl (0, 10), .inl (0, 10), .inr (.inr (10, [some (some 221), some (some 222), some (some 223), none, none])), .inl (0, 20), .inl (0, 20), .inl (0, 20), .inr (.inr (6, [some (some 225), some (some 227), none, some (some 228), some (some 229), some (some 230), none, some (some 231), some (some 232), some (some 233), none])), .inr (.inr (1, [none, some (some 226)])), .inl (0, 2), .inl (0, 2), .inl (0, 2), .inl (0, 2), .inl (0, 2), .inl (0, 2), .inl (0, 10), .inl (0, 10), .inr (.inr (10, [some (some 235), some (some 236), some (some 237), none, none])), .inl (0, 20), .inl (0, 20), .inl (0, 20), .inr (.inr (6, [some (some 239), some (some 241), none, some (some 242), some (some 243), some (some 244), none, some (some 245), some (some 246), some (some 247), none])), .inr (.inr (1, [none, some (some 240)])), .inl (0, 2), .inl (0, 2), .inl (0, 2), .inl (0, 2), .inl (0, 2), .inl (0, 2), .inl (0, 10), .inl (0, 10), .inr (.inr (10, [some (some 249), some (some 250), some (some 251), none, none])), .inl (0, 20), .inl (0, 20), .inl (0, 20), .inr (.inr (6, [some (some 253), some (some 255), none, some (some 256), some (some 257), some (some 258), none, some (some 259), some (some 260), some (some 261), none])), .inr (.inr (1, [none, some (some 254)])), .inl (0, 2), .inl (0, 2), .inl (0, 2), .inl (0, 2), .inl (0, 2), .inl (0, 2), .inl (0, 10), .inl (0, 10), .inr (.inr (10, [some (some 263), some (some 264), some (some 265), none, none])), .inl (0, 20), .inl (0, 20), .inl (0, 20), .inr (.inr (1, [none, some (some 267)])), .inl (0, 2), .inr (.inl (4, [some 269, some 271, some 273, some 275, some 277, some 279])), .inr (.inr (1, [none, some (some 270)])), .inl (0, 2), .inr (.inr (1, [none, some (some 272)])), .inl (0, 2), .inr (.inr (1, [none, some (some 274)])), .inl (0, 2), .inr (.inr (1, [none, some (some 276)])), .inl (0, 2), .inr (.inr (1, [none, some (some 278)])), .inl (0, 2), .inr (.inr (1, [none, some (some 280)])), .inl (0, 2), .inr (.inr (12, [none, some (some 282), some (some 283), none, none, none, some (some 284), none, none, none, none, none, none, none, some (some 285), some (some 286), some (some 287), some (some 288), none, none, none, some (some 289), some (some 290), some (some 291), some (some 292), some (some 293), some (some 294), none, none, some (some 295), some (some 296), some (some 297), some (some 298), none, some (some 299), some (some 300), none, none, none, none, some (some 301), some (some 302), none, none, none, none, some (some 303), none, none, none, none, none, some (some 304), some (some 305), none, none, none, none, none, none, some (some 306), some (some 307), some (some 308), some (some 309), none, none, none, none, none, some (some 310), some (some 311), some (some 312), some (some 313), some (some 314), some (some 315), some (some 316), some (some 317), none, none, none, none])), .inl (0, 188), .inl (0, 94), .inl (1, 500), .inl (0, 12), .inl (0, 12), .inl (0, 12), .inl (0, 12), .inl (0, 10), .inl (0, 60), .inl (0, 60), .inl (0, 10), .inl (0, 60), .inl (0, 60), .inl (0, 10), .inl (0, 10), .inl (0, 80), .inl (0, 80), .inl (0, 40), .inl (0, 40), .inl (0, 3), .inl (0, 3), .inl (0, 3), .inl (0, 40), .inl (0, 40), .inl (0, 80), .inl (0, 80), .inl (0, 20), .inl (0, 20), .inl (0, 3500), .inl (0, 3500), .inl (0, 3500), .inl (0, 3500), .inl (0, 3500), .inl (0, 21000), .inl (0, 4), .inl (2, 41250)]
theorem LAY_len : LAY.length = 318 := by decide +kernel
theorem ly_0 : LAY[0]? = some (.inr (.inr (11, [some (some 1), some (some 3), some (some 8), some (some 17), some (some 21), some (some 43), some (some 25), some (some 262), some (some 266), some (some 268), none, none, none]))) := by decide +kernel
theorem ly_1 : LAY[1]? = some (.inr (.inr (7, [some (some 2), none, none, none, none, none, none, none]))) := by decide +kernel
theorem ly_2 : LAY[2]? = some (.inl (0, 500)) := by decide +kernel
theorem ly_3 : LAY[3]? = some (.inr (.inr (5, [some (some 4), none, none, none, none]))) := by decide +kernel
theorem ly_4 : LAY[4]? = some (.inr (.inr (4, [none, none, none, none, some (some 5), some (some 6), some (some 7)]))) := by decide +kernel
theorem ly_5 : LAY[5]? = some (.inl (0, 30)) := by decide +kernel
theorem ly_6 : LAY[6]? = some (.inl (0, 30)) := by decide +kernel
theorem ly_7 : LAY[7]? = some (.inl (0, 30)) := by decide +kernel
theorem ly_8 : LAY[8]? = some (.inr (.inl (3, [some 9, some 13]))) := by decide +kernel
theorem ly_9 : LAY[9]? = some (.inr (.inr (4, [none, none, none, none, some (some 10), some (some 11), some (some 12)]))) := by decide +kernel
theorem ly_10 : LAY[10]? = some (.inl (0, 30)) := by decide +kernel
theorem ly_11 : LAY[11]? = some (.inl (0, 30)) := by decide +kernel
theorem ly_12 : LAY[12]? = some (.inl (0, 30)) := by decide +kernel
theorem ly_13 : LAY[13]? = some (.inr (.inr (4, [none, none, none, none, some (some 14), some (some 15), some (some 16)]))) := by decide +kernel
theorem ly_14 : LAY[14]? = some (.inl (0, 30)) := by decide +kernel
theorem ly_15 : LAY[15]? = some (.inl (0, 30)) := by decide +kernel
theorem ly_16 : LAY[16]? = some (.inl (0, 30)) := by decide +kernel
theorem ly_17 : LAY[17]? = some (.inr (.inr (10, [some (some 18), some (some 19), some (some 20), none, none]))) := by decide +kernel
theorem ly_18 : LAY[18]? = some (.inl (0, 20)) := by decide +kernel
theorem ly_19 : LAY[19]? = some (.inl (0, 20)) := by decide +kernel
theorem ly_20 : LAY[20]? = some (.inl (0, 20)) := by decide +kernel
theorem ly_21 : LAY[21]? = some (.inr (.inr (10, [some (some 22), some (some 23), some (some 24), none, none]))) := by decide +kernel
theorem ly_22 : LAY[22]? = some (.inl (0, 20)) := by decide +kernel
theorem ly_23 : LAY[23]? = some (.inl (0, 20)) := by decide +kernel
theorem ly_24 : LAY[24]? = some (.inl (0, 20)) := by decide +kernel
theorem ly_25 : LAY[25]? = some (.inr (.inr (8, [some (some 26), some (some 27), some (some 28), some (some 29), some (some 30), some (some 31), some (some 32), some (some 34), some (some 36), some (some 38), some (some 40), some (some 41), some (some 42), none, none]))) := by decide +kernel
theorem ly_26 : LAY[26]? = some (.inl (0, 1290)) := by decide +kernel
theorem ly_27 : LAY[27]? = some (.inl (0, 1351)) := by decide +kernel
theorem ly_28 : LAY[28]? = some (.inl (0, 1351)) := by decide +kernel
theorem ly_29 : LAY[29]? = some (.inl (0, 1351)) := by decide +kernel
theorem ly_30 : LAY[30]? = some (.inl (0, 1351)) := by decide +kernel
theorem ly_31 : LAY[31]? = some (.inl (0, 1351)) := by decide +kernel
theorem ly_32 : LAY[32]? = some (.inr (.inr (1, [none, some (some 33)]))) := by decide +kernel
theorem ly_33 : LAY[33]? = some (.inl (0, 2)) := by decide +kernel
theorem ly_34 : LAY[34]? = some (.inr (.inr (1, [none, some (some 35)]))) := by decide +kernel
theorem ly_35 : LAY[35]? = some (.inl (0, 2)) := by decide +kernel
theorem ly_36 : LAY[36]? = some (.inr (.inr (1, [none, some (some 37)]))) := by decide +kernel
theorem ly_37 : LAY[37]? = some (.inl (0, 2)) := by decide +kernel
theorem ly_38 : LAY[38]? = some (.inr (.inr (1, [none, some (some 39)]))) := by decide +kernel
theorem ly_39 : LAY[39]? = some (.inl (0, 2)) := by decide +kernel
theorem ly_40 : LAY[40]? = some (.inl (0, 4)) := by decide +kernel
theorem ly_41 : LAY[41]? = some (.inl (0, 5)) := by decide +kernel
theorem ly_42 : LAY[42]? = some (.inl (0, 20)) := by decide +kernel
theorem ly_43 : LAY[43]? = some (.inr (.inr (3, [some (some 9), some (some 25), some (some 76), some (some 44), none, some (some 45), some (some 46), some (some 56), some (some 60), some (some 64), some (some 68), some (some 72), some (some 74), none, none, none, none, none]))) := by decide +kernel
theorem ly_44 : LAY[44]? = some (.inr (.inl (5, [some 122, some 136, some 150, some 164, some 178, some 192, some 206, some 220, some 234, some 248]))) := by decide +kernel
theorem ly_45 : LAY[45]? = some (.inr (.inl (6, [some 126, some 140, some 154, some 168, some 182, some 196, some 210, some 224, some 238, some 252]))) := by decide +kernel
theorem ly_46 : LAY[46]? = some (.inr (.inr (6, [some (some 47), some (some 49), none, some (some 50), some (some 51), some (some 52), none, some (some 53), some (some 54), some (some 55), none]))) := by decide +kernel
theorem ly_47 : LAY[47]? = some (.inr (.inr (1, [none, some (some 48)]))) := by decide +kernel
theorem ly_48 : LAY[48]? = some (.inl (0, 2)) := by decide +kernel
theorem ly_49 : LAY[49]? = some (.inl (0, 2)) := by decide +kernel
theorem ly_50 : LAY[50]? = some (.inl (0, 2)) := by decide +kernel
theorem ly_51 : LAY[51]? = some (.inl (0, 2)) := by decide +kernel
theorem ly_52 : LAY[52]? = some (.inl (0, 2)) := by decide +kernel
theorem ly_53 : LAY[53]? = some (.inl (0, 2)) := by decide +kernel
theorem ly_54 : LAY[54]? = some (.inl (0, 10)) := by decide +kernel
theorem ly_55 : LAY[55]? = some (.inl (0, 10)) := by decide +kernel
theorem ly_56 : LAY[56]? = some (.inr (.inr (2, [some (some 57), some (some 58), some (some 59), none]))) := by decide +kernel
theorem ly_57 : LAY[57]? = some (.inl (0, 60)) := by decide +kernel
theorem ly_58 : LAY[58]? = some (.inl (0, 60)) := by decide +kernel
theorem ly_59 : LAY[59]? = some (.inl (0, 60)) := by decide +kernel
theorem ly_60 : LAY[60]? = some (.inr (.inr (10, [some (some 61), some (some 62), some (some 63), none, none]))) := by decide +kernel
theorem ly_61 : LAY[61]? = some (.inl (0, 20)) := by decide +kernel
theorem ly_62 : LAY[62]? = some (.inl (0, 20)) := by decide +kernel
theorem ly_63 : LAY[63]? = some (.inl (0, 20)) := by decide +kernel
theorem ly_64 : LAY[64]? = some (.inr (.inr (10, [some (some 65), some (some 66), some (some 67), none, none]))) := by decide +kernel
theorem ly_65 : LAY[65]? = some (.inl (0, 20)) := by decide +kernel
theorem ly_66 : LAY[66]? = some (.inl (0, 20)) := by decide +kernel
theorem ly_67 : LAY[67]? = some (.inl (0, 20)) := by decide +kernel
theorem ly_68 : LAY[68]? = some (.inr (.inr (10, [some (some 69), some (some 70), some (some 71), none, none]))) := by decide +kernel
theorem ly_69 : LAY[69]? = some (.inl (0, 20)) := by decide +kernel
theorem ly_70 : LAY[70]? = some (.inl (0, 20)) := by decide +kernel
theorem ly_71 : LAY[71]? = some (.inl (0, 20)) := by decide +kernel
theorem ly_72 : LAY[72]? = some (.inr (.inr (1, [none, some (some 73)]))) := by decide +kernel
theorem ly_73 : LAY[73]? = some (.inl (0, 2)) := by decide +kernel
theorem ly_74 : LAY[74]? = some (.inr (.inr (1, [none, some (some 75)]))) := by decide +kernel
theorem ly_75 : LAY[75]? = some (.inl (0, 2)) := by decide +kernel
theorem ly_76 : LAY[76]? = some (.inr (.inr (0, [some (some 9), some (some 77), none, some (some 78), some (some 79), some (some 80)]))) := by decide +kernel
theorem ly_77 : LAY[77]? = some (.inr (.inl (5, [some 82, some 86, some 90, some 94, some 98, some 102, some 106, some 110, some 114, some 118]))) := by decide +kernel
theorem ly_78 : LAY[78]? = some (.inl (0, 3)) := by decide +kernel
theorem ly_79 : LAY[79]? = some (.inl (0, 3)) := by decide +kernel
theorem ly_80 : LAY[80]? = some (.inr (.inr (1, [none, some (some 81)]))) := by decide +kernel
theorem ly_81 : LAY[81]? = some (.inl (0, 2)) := by decide +kernel
theorem ly_82 : LAY[82]? = some (.inr (.inr (10, [some (some 83), some (some 84), some (some 85), none, none]))) := by decide +kernel
theorem ly_83 : LAY[83]? = some (.inl (0, 20)) := by decide +kernel
theorem ly_84 : LAY[84]? = some (.inl (0, 20)) := by decide +kernel
theorem ly_85 : LAY[85]? = some (.inl (0, 20)) := by decide +kernel
theorem ly_86 : LAY[86]? = some (.inr (.inr (10, [some (some 87), some (some 88), some (some 89), none, none]))) := by decide +kernel
theorem ly_87 : LAY[87]? = some (.inl (0, 20)) := by decide +kernel
theorem ly_88 : LAY[88]? = some (.inl (0, 20)) := by decide +kernel
theorem ly_89 : LAY[89]? = some (.inl (0, 20)) := by decide +kernel
theorem ly_90 : LAY[90]? = some (.inr (.inr (10, [some (some 91), some (some 92), some (some 93), none, none]))) := by decide +kernel
theorem ly_91 : LAY[91]? = some (.inl (0, 20)) := by decide +kernel
theorem ly_92 : LAY[92]? = some (.inl (0, 20)) := by decide +kernel
theorem ly_93 : LAY[93]? = some (.inl (0, 20)) := by decide +kernel
theorem ly_94 : LAY[94]? = some (.inr (.inr (10, [some (some 95), some (some 96), some (some 97), none, none]))) := by decide +kernel
theorem ly_95 : LAY[95]? = some (.inl (0, 20)) := by decide +kernel
theorem ly_96 : LAY[96]? = some (.inl (0, 20)) := by decide +kernel
theorem ly_97 : LAY[97]? = some (.inl (0, 20)) := by decide +kernel
theorem ly_98 : LAY[98]? = some (.inr (.inr (10, [some (some 99), some (some 100), some (some 101), none, none]))) := by decide +kernel
theorem ly_99 : LAY[99]? = some (.inl (0, 20)) := by decide +kernel
theorem ly_100 : LAY[100]? = some (.inl (0, 20)) := by decide +kernel
theorem ly_101 : LAY[101]? = some (.inl (0, 20)) := by decide +kernel
theorem ly_102 : LAY[102]? = some (.inr (.inr (10, [some (some 103), some (some 104), some (some 105), none, none]))) := by decide +kernel
theorem ly_103 : LAY[103]? = some (.inl (0, 20)) := by decide +kernel
theorem ly_104 : LAY[104]? = some (.inl (0, 20)) := by decide +kernel
theorem ly_105 : LAY[105]? = some (.inl (0, 20)) := by decide +kernel
theorem ly_106 : LAY[106]? = some (.inr (.inr (10, [some (some 107), some (some 108), some (some 109), none, none]))) := by decide +kernel
theorem ly_107 : LAY[107]? = some (.inl (0, 20)) := by decide +kernel
theorem ly_108 : LAY[108]? = some (.inl (0, 20)) := by decide +kernel
theorem ly_109 : LAY[109]? = some (.inl (0, 20)) := by decide +kernel
theorem ly_110 : LAY[110]? = some (.inr (.inr (10, [some (some 111), some (some 112), some (some 113), none, none]))) := by decide +kernel
theorem ly_111 : LAY[111]? = some (.inl (0, 20)) := by decide +kernel
theorem ly_112 : LAY[112]? = some (.inl (0, 20)) := by decide +kernel
theorem ly_113 : LAY[113]? = some (.inl (0, 20)) := by decide +kernel
theorem ly_114 : LAY[114]? = some (.inr (.inr (10, [some (some 115), some (some 116), some (some 117), none, none]))) := by decide +kernel
theorem ly_115 : LAY[115]? = some (.inl (0, 20)) := by decide +kernel
theorem ly_116 : LAY[116]? = some (.inl (0, 20)) := by decide +kernel
theorem ly_117 : LAY[117]? = some (.inl (0, 20)) := by decide +kernel
theorem ly_118 : LAY[118]? = some (.inr (.inr (10, [some (some 119), some (some 120), some (some 121), none, none]))) := by decide +kernel
theorem ly_119 : LAY[119]? = some (.inl (0, 20)) := by decide +kernel
theorem ly_120 : LAY[120]? = some (.inl (0, 20)) := by decide +kernel
theorem ly_121 : LAY[121]? = some (.inl (0, 20)) := by decide +kernel
theorem ly_122 : LAY[122]? = some (.inr (.inr (10, [some (some 123), some (some 124), some (some 125), none, none]))) := by decide +kernel
theorem ly_123 : LAY[123]? = some (.inl (0, 20)) := by decide +kernel
theorem ly_124 : LAY[124]? = some (.inl (0, 20)) := by decide +kernel
theorem ly_125 : LAY[125]? = some (.inl (0, 20)) := by decide +kernel
theorem ly_126 : LAY[126]? = some (.inr (.inr (6, [some (some 127), some (some 129), none, some (some 130), some (some 131), some (some 132), none, some (some 133), some (some 134), some (some 135), none]))) := by decide +kernel
theorem ly_127 : LAY[127]? = some (.inr (.inr (1, [none, some (some 128)]))) := by decide +kernel
theorem ly_128 : LAY[128]? = some (.inl (0, 2)) := by decide +kernel
theorem ly_129 : LAY[129]? = some (.inl (0, 2)) := by decide +kernel
theorem ly_130 : LAY[130]? = some (.inl (0, 2)) := by decide +kernel
theorem ly_131 : LAY[131]? = some (.inl (0, 2)) := by decide +kernel
theorem ly_132 : LAY[132]? = some (.inl (0, 2)) := by decide +kernel
theorem ly_133 : LAY[133]? = some (.inl (0, 2)) := by decide +kernel
theorem ly_134 : LAY[134]? = some (.inl (0, 10)) := by decide +kernel
theorem ly_135 : LAY[135]? = some (.inl (0, 10)) := by decide +kernel
theorem ly_136 : LAY[136]? = some (.inr (.inr (10, [some (some 137), some (some 138), some (some 139), none, none]))) := by decide +kernel
theorem ly_137 : LAY[137]? = some (.inl (0, 20)) := by decide +kernel
theorem ly_138 : LAY[138]? = some (.inl (0, 20)) := by decide +kernel
theorem ly_139 : LAY[139]? = some (.inl (0, 20)) := by decide +kernel
theorem ly_140 : LAY[140]? = some (.inr (.inr (6, [some (some 141), some (some 143), none, some (some 144), some (some 145), some (some 146), none, some (some 147), some (some 148), some (some 149), none]))) := by decide +kernel
theorem ly_141 : LAY[141]? = some (.inr (.inr (1, [none, some (some 142)]))) := by decide +kernel
theorem ly_142 : LAY[142]? = some (.inl (0, 2)) := by decide +kernel
theorem ly_143 : LAY[143]? = some (.inl (0, 2)) := by decide +kernel
theorem ly_144 : LAY[144]? = some (.inl (0, 2)) := by decide +kernel
theorem ly_145 : LAY[145]? = some (.inl (0, 2)) := by decide +kernel
theorem ly_146 : LAY[146]? = some (.inl (0, 2)) := by decide +kernel
theorem ly_147 : LAY[147]? = some (.inl (0, 2)) := by decide +kernel
theorem ly_148 : LAY[148]? = some (.inl (0, 10)) := by decide +kernel
theorem ly_149 : LAY[149]? = some (.inl (0, 10)) := by decide +kernel
theorem ly_150 : LAY[150]? = some (.inr (.inr (10, [some (some 151), some (some 152), some (some 153), none, none]))) := by decide +kernel
theorem ly_151 : LAY[151]? = some (.inl (0, 20)) := by decide +kernel
theorem ly_152 : LAY[152]? = some (.inl (0, 20)) := by decide +kernel
theorem ly_153 : LAY[153]? = some (.inl (0, 20)) := by decide +kernel
theorem ly_154 : LAY[154]? = some (.inr (.inr (6, [some (some 155), some (some 157), none, some (some 158), some (some 159), some (some 160), none, some (some 161), some (some 162), some (some 163), none]))) := by decide +kernel
theorem ly_155 : LAY[155]? = some (.inr (.inr (1, [none, some (some 156)]))) := by decide +kernel
theorem ly_156 : LAY[156]? = some (.inl (0, 2)) := by decide +kernel
theorem ly_157 : LAY[157]? = some (.inl (0, 2)) := by decide +kernel
theorem ly_158 : LAY[158]? = some (.inl (0, 2)) := by decide +kernel
theorem ly_159 : LAY[159]? = some (.inl (0, 2)) := by decide +kernel
theorem ly_160 : LAY[160]? = some (.inl (0, 2)) := by decide +kernel
theorem ly_161 : LAY[161]? = some (.inl (0, 2)) := by decide +kernel
theorem ly_162 : LAY[162]? = some (.inl (0, 10)) := by decide +kernel
theorem ly_163 : LAY[163]? = some (.inl (0, 10)) := by decide +kernel
theorem ly_164 : LAY[164]? = some (.inr (.inr (10, [some (some 165), some (some 166), some (some 167), none, none]))) := by decide +kernel
theorem ly_165 : LAY[165]? = some (.inl (0, 20)) := by decide +kernel
theorem ly_166 : LAY[166]? = some (.inl (0, 20)) := by decide +kernel
theorem ly_167 : LAY[167]? = some (.inl (0, 20)) := by decide +kernel
theorem ly_168 : LAY[168]? = some (.inr (.inr (6, [some (some 169), some (some 171), none, some (some 172), some (some 173), some (some 174), none, some (some 175), some (some 176), some (some 177), none]))) := by decide +kernel
theorem ly_169 : LAY[169]? = some (.inr (.inr (1, [none, some (some 170)]))) := by decide +kernel
theorem ly_170 : LAY[170]? = some (.inl (0, 2)) := by decide +kernel
theorem ly_171 : LAY[171]? = some (.inl (0, 2)) := by decide +kernel
theorem ly_172 : LAY[172]? = some (.inl (0, 2)) := by decide +kernel
theorem ly_173 : LAY[173]? = some (.inl (0, 2)) := by decide +kernel
theorem ly_174 : LAY[174]? = some (.inl (0, 2)) := by decide +kernel
theorem ly_175 : LAY[175]? = some (.inl (0, 2)) := by decide +kernel
theorem ly_176 : LAY[176]? = some (.inl (0, 10)) := by decide +kernel
theorem ly_177 : LAY[177]? = some (.inl (0, 10)) := by decide +kernel
theorem ly_178 : LAY[178]? = some (.inr (.inr (10, [some (some 179), some (some 180), some (some 181), none, none]))) := by decide +kernel
theorem ly_179 : LAY[179]? = some (.inl (0, 20)) := by decide +kernel
theorem ly_180 : LAY[180]? = some (.inl (0, 20)) := by decide +kernel
theorem ly_181 : LAY[181]? = some (.inl (0, 20)) := by decide +kernel
theorem ly_182 : LAY[182]? = some (.inr (.inr (6, [some (some 183), some (some 185), none, some (some 186), some (some 187), some (some 188), none, some (some 189), some (some 190), some (some 191), none]))) := by decide +kernel
theorem ly_183 : LAY[183]? = some (.inr (.inr (1, [none, some (some 184)]))) := by decide +kernel
theorem ly_184 : LAY[184]? = some (.inl (0, 2)) := by decide +kernel
theorem ly_185 : LAY[185]? = some (.inl (0, 2)) := by decide +kernel
theorem ly_186 : LAY[186]? = some (.inl (0, 2)) := by decide +kernel
theorem ly_187 : LAY[187]? = some (.inl (0, 2)) := by decide +kernel
theorem ly_188 : LAY[188]? = some (.inl (0, 2)) := by decide +kernel
theorem ly_189 : LAY[189]? = some (.inl (0, 2)) := by decide +kernel
theorem ly_190 : LAY[190]? = some (.inl (0, 10)) := by decide +kernel
theorem ly_191 : LAY[191]? = some (.inl (0, 10)) := by decide +kernel
theorem ly_192 : LAY[192]? = some (.inr (.inr (10, [some (some 193), some (some 194), some (some 195), none, none]))) := by decide +kernel
theorem ly_193 : LAY[193]? = some (.inl (0, 20)) := by decide +kernel
theorem ly_194 : LAY[194]? = some (.inl (0, 20)) := by decide +kernel
theorem ly_195 : LAY[195]? = some (.inl (0, 20)) := by decide +kernel
theorem ly_196 : LAY[196]? = some (.inr (.inr (6, [some (some 197), some (some 199), none, some (some 200), some (some 201), some (some 202), none, some (some 203), some (some 204), some (some 205), none]))) := by decide +kernel
theorem ly_197 : LAY[197]? = some (.inr (.inr (1, [none, some (some 198)]))) := by decide +kernel
theorem ly_198 : LAY[198]? = some (.inl (0, 2)) := by decide +kernel
theorem ly_199 : LAY[199]? = some (.inl (0, 2)) := by decide +kernel
theorem ly_200 : LAY[200]? = some (.inl (0, 2)) := by decide +kernel
theorem ly_201 : LAY[201]? = some (.inl (0, 2)) := by decide +kernel
theorem ly_202 : LAY[202]? = some (.inl (0, 2)) := by decide +kernel
theorem ly_203 : LAY[203]? = some (.inl (0, 2)) := by decide +kernel
theorem ly_204 : LAY[204]? = some (.inl (0, 10)) := by decide +kernel
theorem ly_205 : LAY[205]? = some (.inl (0, 10)) := by decide +kernel
theorem ly_206 : LAY[206]? = some (.inr (.inr (10, [some (some 207), some (some 208), some (some 209), none, none]))) := by decide +kernel
theorem ly_207 : LAY[207]? = some (.inl (0, 20)) := by decide +kernel
theorem ly_208 : LAY[208]? = some (.inl (0, 20)) := by decide +kernel
theorem ly_209 : LAY[209]? = some (.inl (0, 20)) := by decide +kernel
theorem ly_210 : LAY[210]? = some (.inr (.inr (6, [some (some 211), some (some 213), none, some (some 214), some (some 215), some (some 216), none, some (some 217), some (some 218), some (some 219), none]))) := by decide +kernel
theorem ly_211 : LAY[211]? = some (.inr (.inr (1, [none, some (some 212)]))) := by decide +kernel
theorem ly_212 : LAY[212]? = some (.inl (0, 2)) := by decide +kernel
theorem ly_213 : LAY[213]? = some (.inl (0, 2)) := by decide +kernel
theorem ly_214 : LAY[214]? = some (.inl (0, 2)) := by decide +kernel
theorem ly_215 : LAY[215]? = some (.inl (0, 2)) := by decide +kernel
theorem ly_216 : LAY[216]? = some (.inl (0, 2)) := by decide +kernel
theorem ly_217 : LAY[217]? = some (.inl (0, 2)) := by decide +kernel
theorem ly_218 : LAY[218]? = some (.inl (0, 10)) := by decide +kernel
theorem ly_219 : LAY[219]? = some (.inl (0, 10)) := by decide +kernel
theorem ly_220 : LAY[220]? = some (.inr (.inr (10, [some (some 221), some (some 222), some (some 223), none, none]))) := by decide +kernel
theorem ly_221 : LAY[221]? = some (.inl (0, 20)) := by decide +kernel
theorem ly_222 : LAY[222]? = some (.inl (0, 20)) := by decide +kernel
theorem ly_223 : LAY[223]? = some (.inl (0, 20)) := by decide +kernel
theorem ly_224 : LAY[224]? = some (.inr (.inr (6, [some (some 225), some (some 227), none, some (some 228), some (some 229), some (some 230), none, some (some 231), some (some 232), some (some 233), none]))) := by decide +kernel
theorem ly_225 : LAY[225]? = some (.inr (.inr (1, [none, some (some 226)]))) := by decide +kernel
theorem ly_226 : LAY[226]? = some (.inl (0, 2)) := by decide +kernel
theorem ly_227 : LAY[227]? = some (.inl (0, 2)) := by decide +kernel
theorem ly_228 : LAY[228]? = some (.inl (0, 2)) := by decide +kernel
theorem ly_229 : LAY[229]? = some (.inl (0, 2)) := by decide +kernel
theorem ly_230 : LAY[230]? = some (.inl (0, 2)) := by decide +kernel
theorem ly_231 : LAY[231]? = some (.inl (0, 2)) := by decide +kernel
theorem ly_232 : LAY[232]? = some (.inl (0, 10)) := by decide +kernel
theorem ly_233 : LAY[233]? = some (.inl (0, 10)) := by decide +kernel
theorem ly_234 : LAY[234]? = some (.inr (.inr (10, [some (some 235), some (some 236), some (some 237), none, none]))) := by decide +kernel
theorem ly_235 : LAY[235]? = some (.inl (0, 20)) := by decide +kernel
theorem ly_236 : LAY[236]? = some (.inl (0, 20)) := by decide +kernel
theorem ly_237 : LAY[237]? = some (.inl (0, 20)) := by decide +kernel
theorem ly_238 : LAY[238]? = some (.inr (.inr (6, [some (some 239), some (some 241), none, some (some 242), some (some 243), some (some 244), none, some (some 245), some (some 246), some (some 247), none]))) := by decide +kernel
theorem ly_239 : LAY[239]? = some (.inr (.inr (1, [none, some (some 240)]))) := by decide +kernel
theorem ly_240 : LAY[240]? = some (.inl (0, 2)) := by decide +kernel
theorem ly_241 : LAY[241]? = some (.inl (0, 2)) := by decide +kernel
theorem ly_242 : LAY[242]? = some (.inl (0, 2)) := by decide +kernel
theorem ly_243 : LAY[243]? = some (.inl (0, 2)) := by decide +kernel
theorem ly_244 : LAY[244]? = some (.inl (0, 2)) := by decide +kernel
theorem ly_245 : LAY[245]? = some (.inl (0, 2)) := by decide +kernel
theorem ly_246 : LAY[246]? = some (.inl (0, 10)) := by decide +kernel
theorem ly_247 : LAY[247]? = some (.inl (0, 10)) := by decide +kernel
theorem ly_248 : LAY[248]? = some (.inr (.inr (10, [some (some 249), some (some 250), some (some 251), none, none]))) := by decide +kernel
theorem ly_249 : LAY[249]? = some (.inl (0, 20)) := by decide +kernel
theorem ly_250 : LAY[250]? = some (.inl (0, 20)) := by decide +kernel
theorem ly_251 : LAY[251]? = some (.inl (0, 20)) := by decide +kernel
theorem ly_252 : LAY[252]? = some (.inr (.inr (6, [some (some 253), some (some 255), none, some (some 256), some (some 257), some (some 258), none, some (some 259), some (some 260), some (some 261), none]))) := by decide +kernel
theorem ly_253 : LAY[253]? = some (.inr (.inr (1, [none, some (some 254)]))) := by decide +kernel
theorem ly_254 : LAY[254]? = some (.inl (0, 2)) := by decide +kernel
theorem ly_255 : LAY[255]? = some (.inl (0, 2)) := by decide +kernel
theorem ly_256 : LAY[256]? = some (.inl (0, 2)) := by decide +kernel
theorem ly_257 : LAY[257]? = some (.inl (0, 2)) := by decide +kernel
theorem ly_258 : LAY[258]? = some (.inl (0, 2)) := by decide +kernel
theorem ly_259 : LAY[259]? = some (.inl (0, 2)) := by decide +kernel
theorem ly_260 : LAY[260]? = some (.inl (0, 10)) := by decide +kernel
theorem ly_261 : LAY[261]? = some (.inl (0, 10)) := by decide +kernel
theorem ly_262 : LAY[262]? = some (.inr (.inr (10, [some (some 263), some (some 264), some (some 265), none, none]))) := by decide +kernel
theorem ly_263 : LAY[263]? = some (.inl (0, 20)) := by decide +kernel
theorem ly_264 : LAY[264]? = some (.inl (0, 20)) := by decide +kernel
theorem ly_265 : LAY[265]? = some (.inl (0, 20)) := by decide +kernel
theorem ly_266 : LAY[266]? = some (.inr (.inr (1, [none, some (some 267)]))) := by decide +kernel
theorem ly_267 : LAY[267]? = some (.inl (0, 2)) := by decide +kernel
theorem ly_268 : LAY[268]? = some (.inr (.inl (4, [some 269, some 271, some 273, some 275, some 277, some 279]))) := by decide +kernel
theorem ly_269 : LAY[269]? = some (.inr (.inr (1, [none, some (some 270)]))) := by decide +kernel
theorem ly_270 : LAY[270]? = some (.inl (0, 2)) := by decide +kernel
theorem ly_271 : LAY[271]? = some (.inr (.inr (1, [none, some (some 272)]))) := by decide +kernel
theorem ly_272 : LAY[272]? = some (.inl (0, 2)) := by decide +kernel
theorem ly_273 : LAY[273]? = some (.inr (.inr (1, [none, some (some 274)]))) := by decide +kernel
theorem ly_274 : LAY[274]? = some (.inl (0, 2)) := by decide +kernel
theorem ly_275 : LAY[275]? = some (.inr (.inr (1, [none, some (some 276)]))) := by decide +kernel
theorem ly_276 : LAY[276]? = some (.inl (0, 2)) := by decide +kernel
theorem ly_277 : LAY[277]? = some (.inr (.inr (1, [none, some (some 278)]))) := by decide +kernel
theorem ly_278 : LAY[278]? = some (.inl (0, 2)) := by decide +kernel
theorem ly_279 : LAY[279]? = some (.inr (.inr (1, [none, some (some 280)]))) := by decide +kernel
theorem ly_280 : LAY[280]? = some (.inl (0, 2)) := by decide +kernel
theorem ly_281 : LAY[281]? = some (.inr (.inr (12, [none, some (some 282), some (some 283), none, none, none, some (some 284), none, none, none, none, none, none, none, some (some 285), some (some 286), some (some 287), some (some 288), none, none, none, some (some 289), some (some 290), some (some 291), some (some 292), some (some 293), some (some 294), none, none, some (some 295), some (some 296), some (some 297), some (some 298), none, some (some 299), some (some 300), none, none, none, none, some (some 301), some (some 302), none, none, none, none, some (some 303), none, none, none, none, none, some (some 304), some (some 305), none, none, none, none, none, none, some (some 306), some (some 307), some (some 308), some (some 309), none, none, none, none, none, some (some 310), some (some 311), some (some 312), some (some 313), some (some 314), some (some 315), some (some 316), some (some 317), none, none, none, none]))) := by decide +kernel
theorem ly_282 : LAY[282]? = some (.inl (0, 188)) := by decide +kernel
theorem ly_283 : LAY[283]? = some (.inl (0, 94)) := by decide +kernel
theorem ly_284 : LAY[284]? = some (.inl (1, 500)) := by decide +kernel
theorem ly_285 : LAY[285]? = some (.inl (0, 12)) := by decide +kernel
theorem ly_286 : LAY[286]? = some (.inl (0, 12)) := by decide +kernel
theorem ly_287 : LAY[287]? = some (.inl (0, 12)) := by decide +kernel
theorem ly_288 : LAY[288]? = some (.inl (0, 12)) := by decide +kernel
theorem ly_289 : LAY[289]? = some (.inl (0, 10)) := by decide +kernel
theorem ly_290 : LAY[290]? = some (.inl (0, 60)) := by decide +kernel
theorem ly_291 : LAY[291]? = some (.inl (0, 60)) := by decide +kernel
theorem ly_292 : LAY[292]? = some (.inl (0, 10)) := by decide +kernel
theorem ly_293 : LAY[293]? = some (.inl (0, 60)) := by decide +kernel
theorem ly_294 : LAY[294]? = some (.inl (0, 60)) := by decide +kernel
theorem ly_295 : LAY[295]? = some (.inl (0, 10)) := by decide +kernel
theorem ly_296 : LAY[296]? = some (.inl (0, 10)) := by decide +kernel
theorem ly_297 : LAY[297]? = some (.inl (0, 80)) := by decide +kernel
theorem ly_298 : LAY[298]? = some (.inl (0, 80)) := by decide +kernel
theorem ly_299 : LAY[299]? = some (.inl (0, 40)) := by decide +kernel
theorem ly_300 : LAY[300]? = some (.inl (0, 40)) := by decide +kernel
theorem ly_301 : LAY[301]? = some (.inl (0, 3)) := by decide +kernel
theorem ly_302 : LAY[302]? = some (.inl (0, 3)) := by decide +kernel
theorem ly_303 : LAY[303]? = some (.inl (0, 3)) := by decide +kernel
theorem ly_304 : LAY[304]? = some (.inl (0, 40)) := by decide +kernel
theorem ly_305 : LAY[305]? = some (.inl (0, 40)) := by decide +kernel
theorem ly_306 : LAY[306]? = some (.inl (0, 80)) := by decide +kernel
theorem ly_307 : LAY[307]? = some (.inl (0, 80)) := by decide +kernel
theorem ly_308 : LAY[308]? = some (.inl (0, 20)) := by decide +kernel
theorem ly_309 : LAY[309]? = some (.inl (0, 20)) := by decide +kernel
theorem ly_310 : LAY[310]? = some (.inl (0, 3500)) := by decide +kernel
theorem ly_311 : LAY[311]? = some (.inl (0, 3500)) := by decide +kernel
theorem ly_312 : LAY[312]? = some (.inl (0, 3500)) := by decide +kernel
theorem ly_313 : LAY[313]? = some (.inl (0, 3500)) := by decide +kernel
theorem ly_314 : LAY[314]? = some (.inl (0, 3500)) := by decide +kernel
theorem ly_315 : LAY[315]? = some (.inl (0, 21000)) := by decide +kernel
theorem ly_316 : LAY[316]? = some (.inl (0, 4)) := by decide +kernel
theorem ly_317 : LAY[317]? = some (.inl (2, 41250)) := by decide +kernel
def isC1 (i : Nat) : Prop := LAY[i]? = some (.inr (.inr (1, [none, some (some (i + 1))]))) ∧ LAY[i + 1]? = some (.inl (0, 2))
theorem ic_32 : isC1 32 := ⟨ly_32, ly_33⟩
theorem ic_34 : isC1 34 := ⟨ly_34, ly_35⟩
theorem ic_36 : isC1 36 := ⟨ly_36, ly_37⟩
theorem ic_38 : isC1 38 := ⟨ly_38, ly_39⟩
theorem ic_47 : isC1 47 := ⟨ly_47, ly_48⟩
theorem ic_72 : isC1 72 := ⟨ly_72, ly_73⟩
theorem ic_74 : isC1 74 := ⟨ly_74, ly_75⟩
theorem ic_80 : isC1 80 := ⟨ly_80, ly_81⟩
theorem ic_127 : isC1 127 := ⟨ly_127, ly_128⟩
theorem ic_141 : isC1 141 := ⟨ly_141, ly_142⟩
theorem ic_155 : isC1 155 := ⟨ly_155, ly_156⟩
theorem ic_169 : isC1 169 := ⟨ly_169, ly_170⟩
theorem ic_183 : isC1 183 := ⟨ly_183, ly_184⟩
theorem ic_197 : isC1 197 := ⟨ly_197, ly_198⟩
theorem ic_211 : isC1 211 := ⟨ly_211, ly_212⟩
theorem ic_225 : isC1 225 := ⟨ly_225, ly_226⟩
theorem ic_239 : isC1 239 := ⟨ly_239, ly_240⟩
theorem ic_253 : isC1 253 := ⟨ly_253, ly_254⟩
theorem ic_266 : isC1 266 := ⟨ly_266, ly_267⟩
theorem ic_269 : isC1 269 := ⟨ly_269, ly_270⟩
theorem ic_271 : isC1 271 := ⟨ly_271, ly_272⟩
theorem ic_273 : isC1 273 := ⟨ly_273, ly_274⟩
theorem ic_275 : isC1 275 := ⟨ly_275, ly_276⟩
theorem ic_277 : isC1 277 := ⟨ly_277, ly_278⟩
theorem ic_279 : isC1 279 := ⟨ly_279, ly_280⟩
def isC4 (i : Nat) : Prop := LAY[i]? = some (.inr (.inr (4, [none, none, none, none, some (some (i + 1)), some (some (i + 2)), some (some (i + 3))]))) ∧ LAY[i + 1]? = some (.inl (0, 30)) ∧ LAY[i + 2]? = some (.inl (0, 30)) ∧ LAY[i + 3]? = some (.inl (0, 30))
theorem ic_4 : isC4 4 := ⟨ly_4, ly_5, ly_6, ly_7⟩
theorem ic_9 : isC4 9 := ⟨ly_9, ly_10, ly_11, ly_12⟩
theorem ic_13 : isC4 13 := ⟨ly_13, ly_14, ly_15, ly_16⟩
def isC6 (i : Nat) : Prop := LAY[i]? = some (.inr (.inr (6, [some (some (i + 1)), some (some (i + 3)), none, some (some (i + 4)), some (some (i + 5)), some (some (i + 6)), none, some (some (i + 7)), some (some (i + 8)), some (some (i + 9)), none]))) ∧ LAY[i + 1]? = some (.inr (.inr (1, [none, some (some (i + 2))]))) ∧ LAY[i + 2]? = some (.inl (0, 2)) ∧ LAY[i + 3]? = some (.inl (0, 2)) ∧ LAY[i + 4]? = some (.inl (0, 2)) ∧ LAY[i + 5]? = some (.inl (0, 2)) ∧ LAY[i + 6]? = some (.inl (0, 2)) ∧ LAY[i + 7]? = some (.inl (0, 2)) ∧ LAY[i + 8]? = some (.inl (0, 10)) ∧ LAY[i + 9]? = some (.inl (0, 10))
theorem ic_46 : isC6 46 := ⟨ly_46, ly_47, ly_48, ly_49, ly_50, ly_51, ly_52, ly_53, ly_54, ly_55⟩
theorem ic_126 : isC6 126 := ⟨ly_126, ly_127, ly_128, ly_129, ly_130, ly_131, ly_132, ly_133, ly_134, ly_135⟩
theorem ic_140 : isC6 140 := ⟨ly_140, ly_141, ly_142, ly_143, ly_144, ly_145, ly_146, ly_147, ly_148, ly_149⟩
theorem ic_154 : isC6 154 := ⟨ly_154, ly_155, ly_156, ly_157, ly_158, ly_159, ly_160, ly_161, ly_162, ly_163⟩
theorem ic_168 : isC6 168 := ⟨ly_168, ly_169, ly_170, ly_171, ly_172, ly_173, ly_174, ly_175, ly_176, ly_177⟩
theorem ic_182 : isC6 182 := ⟨ly_182, ly_183, ly_184, ly_185, ly_186, ly_187, ly_188, ly_189, ly_190, ly_191⟩
theorem ic_196 : isC6 196 := ⟨ly_196, ly_197, ly_198, ly_199, ly_200, ly_201, ly_202, ly_203, ly_204, ly_205⟩
theorem ic_210 : isC6 210 := ⟨ly_210, ly_211, ly_212, ly_213, ly_214, ly_215, ly_216, ly_217, ly_218, ly_219⟩
theorem ic_224 : isC6 224 := ⟨ly_224, ly_225, ly_226, ly_227, ly_228, ly_229, ly_230, ly_231, ly_232, ly_233⟩
theorem ic_238 : isC6 238 := ⟨ly_238, ly_239, ly_240, ly_241, ly_242, ly_243, ly_244, ly_245, ly_246, ly_247⟩
theorem ic_252 : isC6 252 := ⟨ly_252, ly_253, ly_254, ly_255, ly_256, ly_257, ly_258, ly_259, ly_260, ly_261⟩
def isC10 (i : Nat) : Prop := LAY[i]? = some (.inr (.inr (10, [some (some (i + 1)), some (some (i + 2)), some (some (i + 3)), none, none]))) ∧ LAY[i + 1]? = some (.inl (0, 20)) ∧ LAY[i + 2]? = some (.inl (0, 20)) ∧ LAY[i + 3]? = some (.inl (0, 20))
theorem ic_17 : isC10 17 := ⟨ly_17, ly_18, ly_19, ly_20⟩
theorem ic_21 : isC10 21 := ⟨ly_21, ly_22, ly_23, ly_24⟩
theorem ic_60 : isC10 60 := ⟨ly_60, ly_61, ly_62, ly_63⟩
theorem ic_64 : isC10 64 := ⟨ly_64, ly_65, ly_66, ly_67⟩
theorem ic_68 : isC10 68 := ⟨ly_68, ly_69, ly_70, ly_71⟩
theorem ic_82 : isC10 82 := ⟨ly_82, ly_83, ly_84, ly_85⟩
theorem ic_86 : isC10 86 := ⟨ly_86, ly_87, ly_88, ly_89⟩
theorem ic_90 : isC10 90 := ⟨ly_90, ly_91, ly_92, ly_93⟩
theorem ic_94 : isC10 94 := ⟨ly_94, ly_95, ly_96, ly_97⟩
theorem ic_98 : isC10 98 := ⟨ly_98, ly_99, ly_100, ly_101⟩
theorem ic_102 : isC10 102 := ⟨ly_102, ly_103, ly_104, ly_105⟩
theorem ic_106 : isC10 106 := ⟨ly_106, ly_107, ly_108, ly_109⟩
theorem ic_110 : isC10 110 := ⟨ly_110, ly_111, ly_112, ly_113⟩
theorem ic_114 : isC10 114 := ⟨ly_114, ly_115, ly_116, ly_117⟩
theorem ic_118 : isC10 118 := ⟨ly_118, ly_119, ly_120, ly_121⟩
theorem ic_122 : isC10 122 := ⟨ly_122, ly_123, ly_124, ly_125⟩
theorem ic_136 : isC10 136 := ⟨ly_136, ly_137, ly_138, ly_139⟩
theorem ic_150 : isC10 150 := ⟨ly_150, ly_151, ly_152, ly_153⟩
theorem ic_164 : isC10 164 := ⟨ly_164, ly_165, ly_166, ly_167⟩
theorem ic_178 : isC10 178 := ⟨ly_178, ly_179, ly_180, ly_181⟩
theorem ic_192 : isC10 192 := ⟨ly_192, ly_193, ly_194, ly_195⟩
theorem ic_206 : isC10 206 := ⟨ly_206, ly_207, ly_208, ly_209⟩
theorem ic_220 : isC10 220 := ⟨ly_220, ly_221, ly_222, ly_223⟩
theorem ic_234 : isC10 234 := ⟨ly_234, ly_235, ly_236, ly_237⟩
theorem ic_248 : isC10 248 := ⟨ly_248, ly_249, ly_250, ly_251⟩
theorem ic_262 : isC10 262 := ⟨ly_262, ly_263, ly_264, ly_265⟩
def ar_8 (j : Nat) : Nat := ([9, 13] : List Nat).getD j 0
theorem ar_8_a : ∀ n, n < 2 → ([some 9, some 13] : List (Option Nat))[n]? = some (some (ar_8 n)) := by decide +kernel
theorem ar_8_b : ∀ n, n < 2 → isC4 (ar_8 n) := fun n hn => match n, hn with
  | 0, _ => ic_9
  | 1, _ => ic_13
  | n + 2, hn => absurd hn (by omega)
theorem ar_8_r {j : Int32} (h : inB j 2 = true) : ([some 9, some 13] : List (Option Nat))[j.toNatClampNeg]? = some (some (ar_8 j.toNatClampNeg)) := ar_8_a _ (inB_lt h)
theorem ar_8_c {j : Int32} (h : inB j 2 = true) : isC4 (ar_8 j.toNatClampNeg) := ar_8_b _ (inB_lt h)
def ar_44 (j : Nat) : Nat := ([122, 136, 150, 164, 178, 192, 206, 220, 234, 248] : List Nat).getD j 0
theorem ar_44_a : ∀ n, n < 10 → ([some 122, some 136, some 150, some 164, some 178, some 192, some 206, some 220, some 234, some 248] : List (Option Nat))[n]? = some (some (ar_44 n)) := by decide +kernel
theorem ar_44_b : ∀ n, n < 10 → isC10 (ar_44 n) := fun n hn => match n, hn with
  | 0, _ => ic_122
  | 1, _ => ic_136
  | 2, _ => ic_150
  | 3, _ => ic_164
  | 4, _ => ic_178
  | 5, _ => ic_192
  | 6, _ => ic_206
  | 7, _ => ic_220
  | 8, _ => ic_234
  | 9, _ => ic_248
  | n + 10, hn => absurd hn (by omega)
theorem ar_44_r {j : Int32} (h : inB j 10 = true) : ([some 122, some 136, some 150, some 164, some 178, some 192, some 206, some 220, some 234, some 248] : List (Option Nat))[j.toNatClampNeg]? = some (some (ar_44 j.toNatClampNeg)) := ar_44_a _ (inB_lt h)
theorem ar_44_c {j : Int32} (h : inB j 10 = true) : isC10 (ar_44 j.toNatClampNeg) := ar_44_b _ (inB_lt h)
def ar_45 (j : Nat) : Nat := ([126, 140, 154, 168, 182, 196, 210, 224, 238, 252] : List Nat).getD j 0
theorem ar_45_a : ∀ n, n < 10 → ([some 126, some 140, some 154, some 168, some 182, some 196, some 210, some 224, some 238, some 252] : List (Option Nat))[n]? = some (some (ar_45 n)) := by decide +kernel
theorem ar_45_b : ∀ n, n < 10 → isC6 (ar_45 n) := fun n hn => match n, hn with
  | 0, _ => ic_126
  | 1, _ => ic_140
  | 2, _ => ic_154
  | 3, _ => ic_168
  | 4, _ => ic_182
  | 5, _ => ic_196
  | 6, _ => ic_210
  | 7, _ => ic_224
  | 8, _ => ic_238
  | 9, _ => ic_252
  | n + 10, hn => absurd hn (by omega)
theorem ar_45_r {j : Int32} (h : inB j 10 = true) : ([some 126, some 140, some 154, some 168, some 182, some 196, some 210, some 224, some 238, some 252] : List (Option Nat))[j.toNatClampNeg]? = some (some (ar_45 j.toNatClampNeg)) := ar_45_a _ (inB_lt h)
theorem ar_45_c {j : Int32} (h : inB j 10 = true) : isC6 (ar_45 j.toNatClampNeg) := ar_45_b _ (inB_lt h)
def ar_77 (j : Nat) : Nat := ([82, 86, 90, 94, 98, 102, 106, 110, 114, 118] : List Nat).getD j 0
theorem ar_77_a : ∀ n, n < 10 → ([some 82, some 86, some 90, some 94, some 98, some 102, some 106, some 110, some 114, some 118] : List (Option Nat))[n]? = some (some (ar_77 n)) := by decide +kernel
theorem ar_77_b : ∀ n, n < 10 → isC10 (ar_77 n) := fun n hn => match n, hn with
  | 0, _ => ic_82
  | 1, _ => ic_86
  | 2, _ => ic_90
  | 3, _ => ic_94
  | 4, _ => ic_98
  | 5, _ => ic_102
  | 6, _ => ic_106
  | 7, _ => ic_110
  | 8, _ => ic_114
  | 9, _ => ic_118
  | n + 10, hn => absurd hn (by omega)
theorem ar_77_r {j : Int32} (h : inB j 10 = true) : ([some 82, some 86, some 90, some 94, some 98, some 102, some 106, some 110, some 114, some 118] : List (Option Nat))[j.toNatClampNeg]? = some (some (ar_77 j.toNatClampNeg)) := ar_77_a _ (inB_lt h)
theorem ar_77_c {j : Int32} (h : inB j 10 = true) : isC10 (ar_77 j.toNatClampNeg) := ar_77_b _ (inB_lt h)
def ar_268 (j : Nat) : Nat := ([269, 271, 273, 275, 277, 279] : List Nat).getD j 0
theorem ar_268_a : ∀ n, n < 6 → ([some 269, some 271, some 273, some 275, some 277, some 279] : List (Option Nat))[n]? = some (some (ar_268 n)) := by decide +kernel
theorem ar_268_b : ∀ n, n < 6 → isC1 (ar_268 n) := fun n hn => match n, hn with
  | 0, _ => ic_269
  | 1, _ => ic_271
  | 2, _ => ic_273
  | 3, _ => ic_275
  | 4, _ => ic_277
  | 5, _ => ic_279
  | n + 6, hn => absurd hn (by omega)
theorem ar_268_r {j : Int32} (h : inB j 6 = true) : ([some 269, some 271, some 273, some 275, some 277, some 279] : List (Option Nat))[j.toNatClampNeg]? = some (some (ar_268 j.toNatClampNeg)) := ar_268_a _ (inB_lt h)
theorem ar_268_c {j : Int32} (h : inB j 6 = true) : isC1 (ar_268 j.toNatClampNeg) := ar_268_b _ (inB_lt h)
