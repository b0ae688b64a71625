theorem kI_m8 : Int32.ofInt (-8) = (-8) := by decide +kernel
theorem kI_m2 : Int32.ofInt (-2) = (-2) := by decide +kernel
theorem kI_m1 : Int32.ofInt (-1) = (-1) := by decide +kernel
theorem kI_0 : Int32.ofInt 0 = 0 := by decide +kernel
theorem kI_1 : Int32.ofInt 1 = 1 := by decide +kernel
theorem kI_2 : Int32.ofInt 2 = 2 := by decide +kernel
theorem kI_3 : Int32.ofInt 3 = 3 := by decide +kernel
theorem kI_4 : Int32.ofInt 4 = 4 := by decide +kernel
theorem kI_5 : Int32.ofInt 5 = 5 := by decide +kernel
theorem kB_m2 : (Int8.ofInt (-2)).toInt32 = (-2) := by decide +kernel
theorem kB_6 : (Int8.ofInt 6).toInt32 = 6 := by decide +kernel
theorem kB_7 : (Int8.ofInt 7).toInt32 = 7 := by decide +kernel
theorem kB_8 : (Int8.ofInt 8).toInt32 = 8 := by decide +kernel
theorem kB_9 : (Int8.ofInt 9).toInt32 = 9 := by decide +kernel
theorem kB_10 : (Int8.ofInt 10).toInt32 = 10 := by decide +kernel
theorem kB_11 : (Int8.ofInt 11).toInt32 = 11 := by decide +kernel
theorem kB_12 : (Int8.ofInt 12).toInt32 = 12 := by decide +kernel
theorem kB_13 : (Int8.ofInt 13).toInt32 = 13 := by decide +kernel
theorem kB_16 : (Int8.ofInt 16).toInt32 = 16 := by decide +kernel
theorem kB_17 : (Int8.ofInt 17).toInt32 = 17 := by decide +kernel
theorem kB_20 : (Int8.ofInt 20).toInt32 = 20 := by decide +kernel
theorem kB_21 : (Int8.ofInt 21).toInt32 = 21 := by decide +kernel
theorem kB_22 : (Int8.ofInt 22).toInt32 = 22 := by decide +kernel
theorem kB_24 : (Int8.ofInt 24).toInt32 = 24 := by decide +kernel
theorem kB_25 : (Int8.ofInt 25).toInt32 = 25 := by decide +kernel
theorem kB_26 : (Int8.ofInt 26).toInt32 = 26 := by decide +kernel
theorem kB_27 : (Int8.ofInt 27).toInt32 = 27 := by decide +kernel
theorem kB_28 : (Int8.ofInt 28).toInt32 = 28 := by decide +kernel
theorem kB_29 : (Int8.ofInt 29).toInt32 = 29 := by decide +kernel
theorem kB_30 : (Int8.ofInt 30).toInt32 = 30 := by decide +kernel
theorem kB_31 : (Int8.ofInt 31).toInt32 = 31 := by decide +kernel
theorem kB_32 : (Int8.ofInt 32).toInt32 = 32 := by decide +kernel
theorem kB_40 : (Int8.ofInt 40).toInt32 = 40 := by decide +kernel
theorem kB_41 : (Int8.ofInt 41).toInt32 = 41 := by decide +kernel
theorem kB_42 : (Int8.ofInt 42).toInt32 = 42 := by decide +kernel
theorem kB_43 : (Int8.ofInt 43).toInt32 = 43 := by decide +kernel
theorem kB_45 : (Int8.ofInt 45).toInt32 = 45 := by decide +kernel
theorem kB_48 : (Int8.ofInt 48).toInt32 = 48 := by decide +kernel
theorem kB_56 : (Int8.ofInt 56).toInt32 = 56 := by decide +kernel
theorem kB_57 : (Int8.ofInt 57).toInt32 = 57 := by decide +kernel
theorem kB_59 : (Int8.ofInt 59).toInt32 = 59 := by decide +kernel
theorem kB_60 : (Int8.ofInt 60).toInt32 = 60 := by decide +kernel
theorem kB_61 : (Int8.ofInt 61).toInt32 = 61 := by decide +kernel
theorem kB_63 : (Int8.ofInt 63).toInt32 = 63 := by decide +kernel
theorem kB_97 : (Int8.ofInt 97).toInt32 = 97 := by decide +kernel
theorem kB_99 : (Int8.ofInt 99).toInt32 = 99 := by decide +kernel
theorem kB_100 : (Int8.ofInt 100).toInt32 = 100 := by decide +kernel
theorem kB_122 : (Int8.ofInt 122).toInt32 = 122 := by decide +kernel
theorem kB_126 : (Int8.ofInt 126).toInt32 = 126 := by decide +kernel
theorem kS_128 : (Int16.ofInt 128).toInt32 = 128 := by decide +kernel
theorem kS_129 : (Int16.ofInt 129).toInt32 = 129 := by decide +kernel
theorem kS_130 : (Int16.ofInt 130).toInt32 = 130 := by decide +kernel
theorem kS_131 : (Int16.ofInt 131).toInt32 = 131 := by decide +kernel
theorem kS_138 : (Int16.ofInt 138).toInt32 = 138 := by decide +kernel
theorem kS_139 : (Int16.ofInt 139).toInt32 = 139 := by decide +kernel
theorem kS_140 : (Int16.ofInt 140).toInt32 = 140 := by decide +kernel
theorem kS_141 : (Int16.ofInt 141).toInt32 = 141 := by decide +kernel
theorem kS_142 : (Int16.ofInt 142).toInt32 = 142 := by decide +kernel
theorem kS_143 : (Int16.ofInt 143).toInt32 = 143 := by decide +kernel
theorem kS_144 : (Int16.ofInt 144).toInt32 = 144 := by decide +kernel
theorem kS_145 : (Int16.ofInt 145).toInt32 = 145 := by decide +kernel
theorem kS_146 : (Int16.ofInt 146).toInt32 = 146 := by decide +kernel
theorem kS_147 : (Int16.ofInt 147).toInt32 = 147 := by decide +kernel
theorem kS_150 : (Int16.ofInt 150).toInt32 = 150 := by decide +kernel
theorem kS_153 : (Int16.ofInt 153).toInt32 = 153 := by decide +kernel
theorem kS_195 : (Int16.ofInt 195).toInt32 = 195 := by decide +kernel
theorem kS_200 : (Int16.ofInt 200).toInt32 = 200 := by decide +kernel
theorem kS_1000 : (Int16.ofInt 1000).toInt32 = 1000 := by decide +kernel
theorem kS_9999 : (Int16.ofInt 9999).toInt32 = 9999 := by decide +kernel
theorem kS_10000 : (Int16.ofInt 10000).toInt32 = 10000 := by decide +kernel
theorem kS_10147 : (Int16.ofInt 10147).toInt32 = 10147 := by decide +kernel
theorem tc_0 : Int32.toNatClampNeg 0 = 0 := by decide +kernel
theorem tc_1 : Int32.toNatClampNeg 1 = 1 := by decide +kernel
theorem tc_2 : Int32.toNatClampNeg 2 = 2 := by decide +kernel
theorem tc_3 : Int32.toNatClampNeg 3 = 3 := by decide +kernel
theorem tc_4 : Int32.toNatClampNeg 4 = 4 := by decide +kernel
theorem tc_5 : Int32.toNatClampNeg 5 = 5 := by decide +kernel
theorem tc_6 : Int32.toNatClampNeg 6 = 6 := by decide +kernel
theorem tc_7 : Int32.toNatClampNeg 7 = 7 := by decide +kernel
def LY_X8 : List Shp := [.inr (8, [(2, 1), (2, 4), (2, 7), (2, 10), (2, 13), (2, 18), (2, 63), (2, 112), (2, 127), (2, 142), (2, 146), (0, 0), (0, 0), (1, 0)]), .inr (5, [(2, 2), (2, 3), (0, 0), (0, 0), (0, 0), (1, 0), (0, 0), (0, 0), (0, 0), (0, 0)]), .inl (0, 1000), .inl (2, 26), .inr (4, [(2, 5), (2, 6), (0, 0), (0, 0), (0, 0)]), .inl (1, 5), .inl (1, 5), .inr (4, [(2, 8), (2, 9), (0, 0), (0, 0), (0, 0)]), .inl (1, 5), .inl (1, 5), .inr (0, [(2, 11), (2, 12), (0, 0), (0, 0), (0, 0)]), .inl (1, 8), .inl (3, 8), .inr (2, [(2, 14), (2, 15), (2, 16), (0, 0), (0, 0), (0, 0), (2, 17), (0, 0)]), .inl (1, 5), .inl (1, 6), .inl (1, 10), .inl (1, 5), .inl (4, 4), .inr (3, [(2, 20), (2, 23), (2, 27), (0, 0)]), .inr (4, [(2, 21), (2, 22), (0, 0), (0, 0), (0, 0)]), .inl (1, 5), .inl (1, 5), .inr (7, [(2, 24), (2, 25), (2, 26), (0, 0)]), .inl (0, 40), .inl (0, 40), .inl (1, 40), .inr (0, [(2, 28), (2, 29), (0, 0), (0, 0), (0, 0)]), .inl (1, 8), .inl (3, 8), .inr (3, [(2, 31), (2, 34), (2, 38), (0, 0)]), .inr (4, [(2, 32), (2, 33), (0, 0), (0, 0), (0, 0)]), .inl (1, 5), .inl (1, 5), .inr (7, [(2, 35), (2, 36), (2, 37), (0, 0)]), .inl (0, 40), .inl (0, 40), .inl (1, 40), .inr (0, [(2, 39), (2, 40), (0, 0), (0, 0), (0, 0)]), .inl (1, 8), .inl (3, 8), .inr (3, [(2, 42), (2, 45), (2, 49), (0, 0)]), .inr (4, [(2, 43), (2, 44), (0, 0), (0, 0), (0, 0)]), .inl (1, 5), .inl (1, 5), .inr (7, [(2, 46), (2, 47), (2, 48), (0, 0)]), .inl (0, 40), .inl (0, 40), .inl (1, 40), .inr (0, [(2, 50), (2, 51), (0, 0), (0, 0), (0, 0)]), .inl (1, 8), .inl (3, 8), .inr (3, [(2, 53), (2, 56), (2, 60), (0, 0)]), .inr (4, [(2, 54), (2, 55), (0, 0), (0, 0), (0, 0)]), .inl (1, 5), .inl (1, 5), .inr (7, [(2, 57), (2, 58), (2, 59), (0, 0)]), .inl (0, 40), .inl (0, 40), .inl (1, 40), .inr (0, [(2, 61), (2, 62), (0, 0), (0, 0), (0, 0)]), .inl (1, 8), .inl (3, 8), .inl (5, 16), .inr (4, [(2, 65), (2, 66), (0, 0), (0, 0), (0, 0)]), .inl (1, 5), .inl (1, 5), .inr (4, [(2, 68), (2, 69), (0, 0), (0, 0), (0, 0)]), .inl (1, 5), .inl (1, 5), .inr (4, [(2, 71), (2, 72), (0, 0), (0, 0), (0, 0)]), .inl (1, 5), .inl (1, 5), .inr (4, [(2, 74), (2, 75), (0, 0), (0, 0), (0, 0)]), .inl (1, 5), .inl (1, 5), .inr (4, [(2, 77), (2, 78), (0, 0), (0, 0), (0, 0)]), .inl (1, 5), .inl (1, 5), .inr (4, [(2, 80), (2, 81), (0, 0), (0, 0), (0, 0)]), .inl (1, 5), .inl (1, 5), .inr (4, [(2, 83), (2, 84), (0, 0), (0, 0), (0, 0)]), .inl (1, 5), .inl (1, 5), .inr (4, [(2, 86), (2, 87), (0, 0), (0, 0), (0, 0)]), .inl (1, 5), .inl (1, 5), .inr (4, [(2, 89), (2, 90), (0, 0), (0, 0), (0, 0)]), .inl (1, 5), .inl (1, 5), .inr (4, [(2, 92), (2, 93), (0, 0), (0, 0), (0, 0)]), .inl (1, 5), .inl (1, 5), .inr (4, [(2, 95), (2, 96), (0, 0), (0, 0), (0, 0)]), .inl (1, 5), .inl (1, 5), .inr (4, [(2, 98), (2, 99), (0, 0), (0, 0), (0, 0)]), .inl (1, 5), .inl (1, 5), .inr (4, [(2, 101), (2, 102), (0, 0), (0, 0), (0, 0)]), .inl (1, 5), .inl (1, 5), .inr (4, [(2, 104), (2, 105), (0, 0), (0, 0), (0, 0)]), .inl (1, 5), .inl (1, 5), .inr (4, [(2, 107), (2, 108), (0, 0), (0, 0), (0, 0)]), .inl (1, 5), .inl (1, 5), .inr (4, [(2, 110), (2, 111), (0, 0), (0, 0), (0, 0)]), .inl (1, 5), .inl (1, 5), .inr (6, [(2, 113), (2, 114), (2, 115), (2, 116), (0, 0), (2, 117), (2, 118), (2, 119), (2, 120), (2, 121), (2, 122), (2, 123), (2, 124), (0, 0), (0, 0), (0, 0), (0, 0), (0, 0)]), .inl (2, 5), .inl (2, 5), .inl (1, 10), .inl (1, 12), .inl (1, 5), .inl (1, 5), .inl (1, 5), .inl (1, 5), .inl (1, 5), .inl (1, 5), .inl (1, 5), .inr (1, [(2, 125), (2, 126), (0, 0), (0, 0), (0, 0)]), .inl (1, 1000), .inl (1, 32), .inr (6, [(2, 128), (2, 129), (2, 130), (2, 131), (0, 0), (2, 132), (2, 133), (2, 134), (2, 135), (2, 136), (2, 137), (2, 138), (2, 139), (0, 0), (0, 0), (0, 0), (0, 0), (0, 0)]), .inl (2, 5), .inl (2, 5), .inl (1, 10), .inl (1, 12), .inl (1, 5), .inl (1, 5), .inl (1, 5), .inl (1, 5), .inl (1, 5), .inl (1, 5), .inl (1, 5), .inr (1, [(2, 140), (2, 141), (0, 0), (0, 0), (0, 0)]), .inl (1, 1000), .inl (1, 32), .inr (7, [(2, 143), (2, 144), (2, 145), (0, 0)]), .inl (0, 40), .inl (0, 40), .inl (1, 40), .inr (7, [(2, 147), (2, 148), (2, 149), (0, 0)]), .inl (0, 40), .inl (0, 40), .inl (1, 40)]
theorem LY_X8_0 : (LY_X8)[0]? = some (.inr (8, [(2, 1), (2, 4), (2, 7), (2, 10), (2, 13), (2, 18), (2, 63), (2, 112), (2, 127), (2, 142), (2, 146), (0, 0), (0, 0), (1, 0)])) := rfl
theorem LY_X8_1 : (LY_X8)[1]? = some (.inr (5, [(2, 2), (2, 3), (0, 0), (0, 0), (0, 0), (1, 0), (0, 0), (0, 0), (0, 0), (0, 0)])) := rfl
theorem LY_X8_2 : (LY_X8)[2]? = some (.inl (0, 1000)) := rfl
theorem LY_X8_3 : (LY_X8)[3]? = some (.inl (2, 26)) := rfl
theorem LY_X8_4 : (LY_X8)[4]? = some (.inr (4, [(2, 5), (2, 6), (0, 0), (0, 0), (0, 0)])) := rfl
theorem LY_X8_5 : (LY_X8)[5]? = some (.inl (1, 5)) := rfl
theorem LY_X8_6 : (LY_X8)[6]? = some (.inl (1, 5)) := rfl
theorem LY_X8_7 : (LY_X8)[7]? = some (.inr (4, [(2, 8), (2, 9), (0, 0), (0, 0), (0, 0)])) := rfl
theorem LY_X8_8 : (LY_X8)[8]? = some (.inl (1, 5)) := rfl
theorem LY_X8_9 : (LY_X8)[9]? = some (.inl (1, 5)) := rfl
theorem LY_X8_10 : (LY_X8)[10]? = some (.inr (0, [(2, 11), (2, 12), (0, 0), (0, 0), (0, 0)])) := rfl
theorem LY_X8_11 : (LY_X8)[11]? = some (.inl (1, 8)) := rfl
theorem LY_X8_12 : (LY_X8)[12]? = some (.inl (3, 8)) := rfl
theorem LY_X8_13 : (LY_X8)[13]? = some (.inr (2, [(2, 14), (2, 15), (2, 16), (0, 0), (0, 0), (0, 0), (2, 17), (0, 0)])) := rfl
theorem LY_X8_14 : (LY_X8)[14]? = some (.inl (1, 5)) := rfl
theorem LY_X8_15 : (LY_X8)[15]? = some (.inl (1, 6)) := rfl
theorem LY_X8_16 : (LY_X8)[16]? = some (.inl (1, 10)) := rfl
theorem LY_X8_17 : (LY_X8)[17]? = some (.inl (1, 5)) := rfl
theorem LY_X8_18 : (LY_X8)[18]? = some (.inl (4, 4)) := rfl
theorem LY_X8_19 : (LY_X8)[19]? = some (.inr (3, [(2, 20), (2, 23), (2, 27), (0, 0)])) := rfl
theorem LY_X8_20 : (LY_X8)[20]? = some (.inr (4, [(2, 21), (2, 22), (0, 0), (0, 0), (0, 0)])) := rfl
theorem LY_X8_21 : (LY_X8)[21]? = some (.inl (1, 5)) := rfl
theorem LY_X8_22 : (LY_X8)[22]? = some (.inl (1, 5)) := rfl
theorem LY_X8_23 : (LY_X8)[23]? = some (.inr (7, [(2, 24), (2, 25), (2, 26), (0, 0)])) := rfl
theorem LY_X8_24 : (LY_X8)[24]? = some (.inl (0, 40)) := rfl
theorem LY_X8_25 : (LY_X8)[25]? = some (.inl (0, 40)) := rfl
theorem LY_X8_26 : (LY_X8)[26]? = some (.inl (1, 40)) := rfl
theorem LY_X8_27 : (LY_X8)[27]? = some (.inr (0, [(2, 28), (2, 29), (0, 0), (0, 0), (0, 0)])) := rfl
theorem LY_X8_28 : (LY_X8)[28]? = some (.inl (1, 8)) := rfl
theorem LY_X8_29 : (LY_X8)[29]? = some (.inl (3, 8)) := rfl
theorem LY_X8_30 : (LY_X8)[30]? = some (.inr (3, [(2, 31), (2, 34), (2, 38), (0, 0)])) := rfl
theorem LY_X8_31 : (LY_X8)[31]? = some (.inr (4, [(2, 32), (2, 33), (0, 0), (0, 0), (0, 0)])) := rfl
theorem LY_X8_32 : (LY_X8)[32]? = some (.inl (1, 5)) := rfl
theorem LY_X8_33 : (LY_X8)[33]? = some (.inl (1, 5)) := rfl
theorem LY_X8_34 : (LY_X8)[34]? = some (.inr (7, [(2, 35), (2, 36), (2, 37), (0, 0)])) := rfl
theorem LY_X8_35 : (LY_X8)[35]? = some (.inl (0, 40)) := rfl
theorem LY_X8_36 : (LY_X8)[36]? = some (.inl (0, 40)) := rfl
theorem LY_X8_37 : (LY_X8)[37]? = some (.inl (1, 40)) := rfl
theorem LY_X8_38 : (LY_X8)[38]? = some (.inr (0, [(2, 39), (2, 40), (0, 0), (0, 0), (0, 0)])) := rfl
theorem LY_X8_39 : (LY_X8)[39]? = some (.inl (1, 8)) := rfl
theorem LY_X8_40 : (LY_X8)[40]? = some (.inl (3, 8)) := rfl
theorem LY_X8_41 : (LY_X8)[41]? = some (.inr (3, [(2, 42), (2, 45), (2, 49), (0, 0)])) := rfl
theorem LY_X8_42 : (LY_X8)[42]? = some (.inr (4, [(2, 43), (2, 44), (0, 0), (0, 0), (0, 0)])) := rfl
theorem LY_X8_43 : (LY_X8)[43]? = some (.inl (1, 5)) := rfl
theorem LY_X8_44 : (LY_X8)[44]? = some (.inl (1, 5)) := rfl
theorem LY_X8_45 : (LY_X8)[45]? = some (.inr (7, [(2, 46), (2, 47), (2, 48), (0, 0)])) := rfl
theorem LY_X8_46 : (LY_X8)[46]? = some (.inl (0, 40)) := rfl
theorem LY_X8_47 : (LY_X8)[47]? = some (.inl (0, 40)) := rfl
theorem LY_X8_48 : (LY_X8)[48]? = some (.inl (1, 40)) := rfl
theorem LY_X8_49 : (LY_X8)[49]? = some (.inr (0, [(2, 50), (2, 51), (0, 0), (0, 0), (0, 0)])) := rfl
theorem LY_X8_50 : (LY_X8)[50]? = some (.inl (1, 8)) := rfl
theorem LY_X8_51 : (LY_X8)[51]? = some (.inl (3, 8)) := rfl
theorem LY_X8_52 : (LY_X8)[52]? = some (.inr (3, [(2, 53), (2, 56), (2, 60), (0, 0)])) := rfl
theorem LY_X8_53 : (LY_X8)[53]? = some (.inr (4, [(2, 54), (2, 55), (0, 0), (0, 0), (0, 0)])) := rfl
theorem LY_X8_54 : (LY_X8)[54]? = some (.inl (1, 5)) := rfl
theorem LY_X8_55 : (LY_X8)[55]? = some (.inl (1, 5)) := rfl
theorem LY_X8_56 : (LY_X8)[56]? = some (.inr (7, [(2, 57), (2, 58), (2, 59), (0, 0)])) := rfl
theorem LY_X8_57 : (LY_X8)[57]? = some (.inl (0, 40)) := rfl
theorem LY_X8_58 : (LY_X8)[58]? = some (.inl (0, 40)) := rfl
theorem LY_X8_59 : (LY_X8)[59]? = some (.inl (1, 40)) := rfl
theorem LY_X8_60 : (LY_X8)[60]? = some (.inr (0, [(2, 61), (2, 62), (0, 0), (0, 0), (0, 0)])) := rfl
theorem LY_X8_61 : (LY_X8)[61]? = some (.inl (1, 8)) := rfl
theorem LY_X8_62 : (LY_X8)[62]? = some (.inl (3, 8)) := rfl
theorem LY_X8_63 : (LY_X8)[63]? = some (.inl (5, 16)) := rfl
theorem LY_X8_64 : (LY_X8)[64]? = some (.inr (4, [(2, 65), (2, 66), (0, 0), (0, 0), (0, 0)])) := rfl
theorem LY_X8_65 : (LY_X8)[65]? = some (.inl (1, 5)) := rfl
theorem LY_X8_66 : (LY_X8)[66]? = some (.inl (1, 5)) := rfl
theorem LY_X8_67 : (LY_X8)[67]? = some (.inr (4, [(2, 68), (2, 69), (0, 0), (0, 0), (0, 0)])) := rfl
theorem LY_X8_68 : (LY_X8)[68]? = some (.inl (1, 5)) := rfl
theorem LY_X8_69 : (LY_X8)[69]? = some (.inl (1, 5)) := rfl
theorem LY_X8_70 : (LY_X8)[70]? = some (.inr (4, [(2, 71), (2, 72), (0, 0), (0, 0), (0, 0)])) := rfl
theorem LY_X8_71 : (LY_X8)[71]? = some (.inl (1, 5)) := rfl
theorem LY_X8_72 : (LY_X8)[72]? = some (.inl (1, 5)) := rfl
theorem LY_X8_73 : (LY_X8)[73]? = some (.inr (4, [(2, 74), (2, 75), (0, 0), (0, 0), (0, 0)])) := rfl
theorem LY_X8_74 : (LY_X8)[74]? = some (.inl (1, 5)) := rfl
theorem LY_X8_75 : (LY_X8)[75]? = some (.inl (1, 5)) := rfl
theorem LY_X8_76 : (LY_X8)[76]? = some (.inr (4, [(2, 77), (2, 78), (0, 0), (0, 0), (0, 0)])) := rfl
theorem LY_X8_77 : (LY_X8)[77]? = some (.inl (1, 5)) := rfl
theorem LY_X8_78 : (LY_X8)[78]? = some (.inl (1, 5)) := rfl
theorem LY_X8_79 : (LY_X8)[79]? = some (.inr (4, [(2, 80), (2, 81), (0, 0), (0, 0), (0, 0)])) := rfl
theorem LY_X8_80 : (LY_X8)[80]? = some (.inl (1, 5)) := rfl
theorem LY_X8_81 : (LY_X8)[81]? = some (.inl (1, 5)) := rfl
theorem LY_X8_82 : (LY_X8)[82]? = some (.inr (4, [(2, 83), (2, 84), (0, 0), (0, 0), (0, 0)])) := rfl
theorem LY_X8_83 : (LY_X8)[83]? = some (.inl (1, 5)) := rfl
theorem LY_X8_84 : (LY_X8)[84]? = some (.inl (1, 5)) := rfl
theorem LY_X8_85 : (LY_X8)[85]? = some (.inr (4, [(2, 86), (2, 87), (0, 0), (0, 0), (0, 0)])) := rfl
theorem LY_X8_86 : (LY_X8)[86]? = some (.inl (1, 5)) := rfl
theorem LY_X8_87 : (LY_X8)[87]? = some (.inl (1, 5)) := rfl
theorem LY_X8_88 : (LY_X8)[88]? = some (.inr (4, [(2, 89), (2, 90), (0, 0), (0, 0), (0, 0)])) := rfl
theorem LY_X8_89 : (LY_X8)[89]? = some (.inl (1, 5)) := rfl
theorem LY_X8_90 : (LY_X8)[90]? = some (.inl (1, 5)) := rfl
theorem LY_X8_91 : (LY_X8)[91]? = some (.inr (4, [(2, 92), (2, 93), (0, 0), (0, 0), (0, 0)])) := rfl
theorem LY_X8_92 : (LY_X8)[92]? = some (.inl (1, 5)) := rfl
theorem LY_X8_93 : (LY_X8)[93]? = some (.inl (1, 5)) := rfl
theorem LY_X8_94 : (LY_X8)[94]? = some (.inr (4, [(2, 95), (2, 96), (0, 0), (0, 0), (0, 0)])) := rfl
theorem LY_X8_95 : (LY_X8)[95]? = some (.inl (1, 5)) := rfl
theorem LY_X8_96 : (LY_X8)[96]? = some (.inl (1, 5)) := rfl
theorem LY_X8_97 : (LY_X8)[97]? = some (.inr (4, [(2, 98), (2, 99), (0, 0), (0, 0), (0, 0)])) := rfl
theorem LY_X8_98 : (LY_X8)[98]? = some (.inl (1, 5)) := rfl
theorem LY_X8_99 : (LY_X8)[99]? = some (.inl (1, 5)) := rfl
theorem LY_X8_100 : (LY_X8)[100]? = some (.inr (4, [(2, 101), (2, 102), (0, 0), (0, 0), (0, 0)])) := rfl
theorem LY_X8_101 : (LY_X8)[101]? = some (.inl (1, 5)) := rfl
theorem LY_X8_102 : (LY_X8)[102]? = some (.inl (1, 5)) := rfl
theorem LY_X8_103 : (LY_X8)[103]? = some (.inr (4, [(2, 104), (2, 105), (0, 0), (0, 0), (0, 0)])) := rfl
theorem LY_X8_104 : (LY_X8)[104]? = some (.inl (1, 5)) := rfl
theorem LY_X8_105 : (LY_X8)[105]? = some (.inl (1, 5)) := rfl
theorem LY_X8_106 : (LY_X8)[106]? = some (.inr (4, [(2, 107), (2, 108), (0, 0), (0, 0), (0, 0)])) := rfl
theorem LY_X8_107 : (LY_X8)[107]? = some (.inl (1, 5)) := rfl
theorem LY_X8_108 : (LY_X8)[108]? = some (.inl (1, 5)) := rfl
theorem LY_X8_109 : (LY_X8)[109]? = some (.inr (4, [(2, 110), (2, 111), (0, 0), (0, 0), (0, 0)])) := rfl
theorem LY_X8_110 : (LY_X8)[110]? = some (.inl (1, 5)) := rfl
theorem LY_X8_111 : (LY_X8)[111]? = some (.inl (1, 5)) := rfl
theorem LY_X8_112 : (LY_X8)[112]? = some (.inr (6, [(2, 113), (2, 114), (2, 115), (2, 116), (0, 0), (2, 117), (2, 118), (2, 119), (2, 120), (2, 121), (2, 122), (2, 123), (2, 124), (0, 0), (0, 0), (0, 0), (0, 0), (0, 0)])) := rfl
theorem LY_X8_113 : (LY_X8)[113]? = some (.inl (2, 5)) := rfl
theorem LY_X8_114 : (LY_X8)[114]? = some (.inl (2, 5)) := rfl
theorem LY_X8_115 : (LY_X8)[115]? = some (.inl (1, 10)) := rfl
theorem LY_X8_116 : (LY_X8)[116]? = some (.inl (1, 12)) := rfl
theorem LY_X8_117 : (LY_X8)[117]? = some (.inl (1, 5)) := rfl
theorem LY_X8_118 : (LY_X8)[118]? = some (.inl (1, 5)) := rfl
theorem LY_X8_119 : (LY_X8)[119]? = some (.inl (1, 5)) := rfl
theorem LY_X8_120 : (LY_X8)[120]? = some (.inl (1, 5)) := rfl
theorem LY_X8_121 : (LY_X8)[121]? = some (.inl (1, 5)) := rfl
theorem LY_X8_122 : (LY_X8)[122]? = some (.inl (1, 5)) := rfl
theorem LY_X8_123 : (LY_X8)[123]? = some (.inl (1, 5)) := rfl
theorem LY_X8_124 : (LY_X8)[124]? = some (.inr (1, [(2, 125), (2, 126), (0, 0), (0, 0), (0, 0)])) := rfl
theorem LY_X8_125 : (LY_X8)[125]? = some (.inl (1, 1000)) := rfl
theorem LY_X8_126 : (LY_X8)[126]? = some (.inl (1, 32)) := rfl
theorem LY_X8_127 : (LY_X8)[127]? = some (.inr (6, [(2, 128), (2, 129), (2, 130), (2, 131), (0, 0), (2, 132), (2, 133), (2, 134), (2, 135), (2, 136), (2, 137), (2, 138), (2, 139), (0, 0), (0, 0), (0, 0), (0, 0), (0, 0)])) := rfl
theorem LY_X8_128 : (LY_X8)[128]? = some (.inl (2, 5)) := rfl
theorem LY_X8_129 : (LY_X8)[129]? = some (.inl (2, 5)) := rfl
theorem LY_X8_130 : (LY_X8)[130]? = some (.inl (1, 10)) := rfl
theorem LY_X8_131 : (LY_X8)[131]? = some (.inl (1, 12)) := rfl
theorem LY_X8_132 : (LY_X8)[132]? = some (.inl (1, 5)) := rfl
theorem LY_X8_133 : (LY_X8)[133]? = some (.inl (1, 5)) := rfl
theorem LY_X8_134 : (LY_X8)[134]? = some (.inl (1, 5)) := rfl
theorem LY_X8_135 : (LY_X8)[135]? = some (.inl (1, 5)) := rfl
theorem LY_X8_136 : (LY_X8)[136]? = some (.inl (1, 5)) := rfl
theorem LY_X8_137 : (LY_X8)[137]? = some (.inl (1, 5)) := rfl
theorem LY_X8_138 : (LY_X8)[138]? = some (.inl (1, 5)) := rfl
theorem LY_X8_139 : (LY_X8)[139]? = some (.inr (1, [(2, 140), (2, 141), (0, 0), (0, 0), (0, 0)])) := rfl
theorem LY_X8_140 : (LY_X8)[140]? = some (.inl (1, 1000)) := rfl
theorem LY_X8_141 : (LY_X8)[141]? = some (.inl (1, 32)) := rfl
theorem LY_X8_142 : (LY_X8)[142]? = some (.inr (7, [(2, 143), (2, 144), (2, 145), (0, 0)])) := rfl
theorem LY_X8_143 : (LY_X8)[143]? = some (.inl (0, 40)) := rfl
theorem LY_X8_144 : (LY_X8)[144]? = some (.inl (0, 40)) := rfl
theorem LY_X8_145 : (LY_X8)[145]? = some (.inl (1, 40)) := rfl
theorem LY_X8_146 : (LY_X8)[146]? = some (.inr (7, [(2, 147), (2, 148), (2, 149), (0, 0)])) := rfl
theorem LY_X8_147 : (LY_X8)[147]? = some (.inl (0, 40)) := rfl
theorem LY_X8_148 : (LY_X8)[148]? = some (.inl (0, 40)) := rfl
theorem LY_X8_149 : (LY_X8)[149]? = some (.inl (1, 40)) := rfl
def LY_X0 : List Shp := [.inr (0, [(2, 1), (2, 2), (0, 0), (0, 0), (0, 0)]), .inl (1, 8), .inl (3, 8)]
theorem LY_X0_0 : (LY_X0)[0]? = some (.inr (0, [(2, 1), (2, 2), (0, 0), (0, 0), (0, 0)])) := rfl
theorem LY_X0_1 : (LY_X0)[1]? = some (.inl (1, 8)) := rfl
theorem LY_X0_2 : (LY_X0)[2]? = some (.inl (3, 8)) := rfl
def LY_X0X0 : List Shp := [.inr (0, [(2, 1), (2, 2), (0, 0), (0, 0), (0, 0)]), .inl (1, 8), .inl (3, 8), .inr (0, [(2, 4), (2, 5), (0, 0), (0, 0), (0, 0)]), .inl (1, 8), .inl (3, 8)]
theorem LY_X0X0_0 : (LY_X0X0)[0]? = some (.inr (0, [(2, 1), (2, 2), (0, 0), (0, 0), (0, 0)])) := rfl
theorem LY_X0X0_1 : (LY_X0X0)[1]? = some (.inl (1, 8)) := rfl
theorem LY_X0X0_2 : (LY_X0X0)[2]? = some (.inl (3, 8)) := rfl
theorem LY_X0X0_3 : (LY_X0X0)[3]? = some (.inr (0, [(2, 4), (2, 5), (0, 0), (0, 0), (0, 0)])) := rfl
theorem LY_X0X0_4 : (LY_X0X0)[4]? = some (.inl (1, 8)) := rfl
theorem LY_X0X0_5 : (LY_X0X0)[5]? = some (.inl (3, 8)) := rfl
def LY_X6 : List Shp := [.inr (6, [(2, 1), (2, 2), (2, 3), (2, 4), (0, 0), (2, 5), (2, 6), (2, 7), (2, 8), (2, 9), (2, 10), (2, 11), (2, 12), (0, 0), (0, 0), (0, 0), (0, 0), (0, 0)]), .inl (2, 5), .inl (2, 5), .inl (1, 10), .inl (1, 12), .inl (1, 5), .inl (1, 5), .inl (1, 5), .inl (1, 5), .inl (1, 5), .inl (1, 5), .inl (1, 5), .inr (1, [(2, 13), (2, 14), (0, 0), (0, 0), (0, 0)]), .inl (1, 1000), .inl (1, 32)]
theorem LY_X6_0 : (LY_X6)[0]? = some (.inr (6, [(2, 1), (2, 2), (2, 3), (2, 4), (0, 0), (2, 5), (2, 6), (2, 7), (2, 8), (2, 9), (2, 10), (2, 11), (2, 12), (0, 0), (0, 0), (0, 0), (0, 0), (0, 0)])) := rfl
theorem LY_X6_1 : (LY_X6)[1]? = some (.inl (2, 5)) := rfl
theorem LY_X6_2 : (LY_X6)[2]? = some (.inl (2, 5)) := rfl
theorem LY_X6_3 : (LY_X6)[3]? = some (.inl (1, 10)) := rfl
theorem LY_X6_4 : (LY_X6)[4]? = some (.inl (1, 12)) := rfl
theorem LY_X6_5 : (LY_X6)[5]? = some (.inl (1, 5)) := rfl
theorem LY_X6_6 : (LY_X6)[6]? = some (.inl (1, 5)) := rfl
theorem LY_X6_7 : (LY_X6)[7]? = some (.inl (1, 5)) := rfl
theorem LY_X6_8 : (LY_X6)[8]? = some (.inl (1, 5)) := rfl
theorem LY_X6_9 : (LY_X6)[9]? = some (.inl (1, 5)) := rfl
theorem LY_X6_10 : (LY_X6)[10]? = some (.inl (1, 5)) := rfl
theorem LY_X6_11 : (LY_X6)[11]? = some (.inl (1, 5)) := rfl
theorem LY_X6_12 : (LY_X6)[12]? = some (.inr (1, [(2, 13), (2, 14), (0, 0), (0, 0), (0, 0)])) := rfl
theorem LY_X6_13 : (LY_X6)[13]? = some (.inl (1, 1000)) := rfl
theorem LY_X6_14 : (LY_X6)[14]? = some (.inl (1, 32)) := rfl
def LY_X0X6 : List Shp := [.inr (0, [(2, 1), (2, 2), (0, 0), (0, 0), (0, 0)]), .inl (1, 8), .inl (3, 8), .inr (6, [(2, 4), (2, 5), (2, 6), (2, 7), (0, 0), (2, 8), (2, 9), (2, 10), (2, 11), (2, 12), (2, 13), (2, 14), (2, 15), (0, 0), (0, 0), (0, 0), (0, 0), (0, 0)]), .inl (2, 5), .inl (2, 5), .inl (1, 10), .inl (1, 12), .inl (1, 5), .inl (1, 5), .inl (1, 5), .inl (1, 5), .inl (1, 5), .inl (1, 5), .inl (1, 5), .inr (1, [(2, 16), (2, 17), (0, 0), (0, 0), (0, 0)]), .inl (1, 1000), .inl (1, 32)]
theorem LY_X0X6_0 : (LY_X0X6)[0]? = some (.inr (0, [(2, 1), (2, 2), (0, 0), (0, 0), (0, 0)])) := rfl
theorem LY_X0X6_1 : (LY_X0X6)[1]? = some (.inl (1, 8)) := rfl
theorem LY_X0X6_2 : (LY_X0X6)[2]? = some (.inl (3, 8)) := rfl
theorem LY_X0X6_3 : (LY_X0X6)[3]? = some (.inr (6, [(2, 4), (2, 5), (2, 6), (2, 7), (0, 0), (2, 8), (2, 9), (2, 10), (2, 11), (2, 12), (2, 13), (2, 14), (2, 15), (0, 0), (0, 0), (0, 0), (0, 0), (0, 0)])) := rfl
theorem LY_X0X6_4 : (LY_X0X6)[4]? = some (.inl (2, 5)) := rfl
theorem LY_X0X6_5 : (LY_X0X6)[5]? = some (.inl (2, 5)) := rfl
theorem LY_X0X6_6 : (LY_X0X6)[6]? = some (.inl (1, 10)) := rfl
theorem LY_X0X6_7 : (LY_X0X6)[7]? = some (.inl (1, 12)) := rfl
theorem LY_X0X6_8 : (LY_X0X6)[8]? = some (.inl (1, 5)) := rfl
theorem LY_X0X6_9 : (LY_X0X6)[9]? = some (.inl (1, 5)) := rfl
theorem LY_X0X6_10 : (LY_X0X6)[10]? = some (.inl (1, 5)) := rfl
theorem LY_X0X6_11 : (LY_X0X6)[11]? = some (.inl (1, 5)) := rfl
theorem LY_X0X6_12 : (LY_X0X6)[12]? = some (.inl (1, 5)) := rfl
theorem LY_X0X6_13 : (LY_X0X6)[13]? = some (.inl (1, 5)) := rfl
theorem LY_X0X6_14 : (LY_X0X6)[14]? = some (.inl (1, 5)) := rfl
theorem LY_X0X6_15 : (LY_X0X6)[15]? = some (.inr (1, [(2, 16), (2, 17), (0, 0), (0, 0), (0, 0)])) := rfl
theorem LY_X0X6_16 : (LY_X0X6)[16]? = some (.inl (1, 1000)) := rfl
theorem LY_X0X6_17 : (LY_X0X6)[17]? = some (.inl (1, 32)) := rfl
def LY_0 : List Shp := []
def LY_X5 : List Shp := [.inr (5, [(2, 1), (2, 2), (0, 0), (0, 0), (0, 0), (1, 0), (0, 0), (0, 0), (0, 0), (0, 0)]), .inl (0, 1000), .inl (2, 26)]
theorem LY_X5_0 : (LY_X5)[0]? = some (.inr (5, [(2, 1), (2, 2), (0, 0), (0, 0), (0, 0), (1, 0), (0, 0), (0, 0), (0, 0), (0, 0)])) := rfl
theorem LY_X5_1 : (LY_X5)[1]? = some (.inl (0, 1000)) := rfl
theorem LY_X5_2 : (LY_X5)[2]? = some (.inl (2, 26)) := rfl
def LY_X1 : List Shp := [.inr (1, [(2, 1), (2, 2), (0, 0), (0, 0), (0, 0)]), .inl (1, 1000), .inl (1, 32)]
theorem LY_X1_0 : (LY_X1)[0]? = some (.inr (1, [(2, 1), (2, 2), (0, 0), (0, 0), (0, 0)])) := rfl
theorem LY_X1_1 : (LY_X1)[1]? = some (.inl (1, 1000)) := rfl
theorem LY_X1_2 : (LY_X1)[2]? = some (.inl (1, 32)) := rfl
def LY_X1X5 : List Shp := [.inr (1, [(2, 1), (2, 2), (0, 0), (0, 0), (0, 0)]), .inl (1, 1000), .inl (1, 32), .inr (5, [(2, 4), (2, 5), (0, 0), (0, 0), (0, 0), (1, 0), (0, 0), (0, 0), (0, 0), (0, 0)]), .inl (0, 1000), .inl (2, 26)]
theorem LY_X1X5_0 : (LY_X1X5)[0]? = some (.inr (1, [(2, 1), (2, 2), (0, 0), (0, 0), (0, 0)])) := rfl
theorem LY_X1X5_1 : (LY_X1X5)[1]? = some (.inl (1, 1000)) := rfl
theorem LY_X1X5_2 : (LY_X1X5)[2]? = some (.inl (1, 32)) := rfl
theorem LY_X1X5_3 : (LY_X1X5)[3]? = some (.inr (5, [(2, 4), (2, 5), (0, 0), (0, 0), (0, 0), (1, 0), (0, 0), (0, 0), (0, 0), (0, 0)])) := rfl
theorem LY_X1X5_4 : (LY_X1X5)[4]? = some (.inl (0, 1000)) := rfl
theorem LY_X1X5_5 : (LY_X1X5)[5]? = some (.inl (2, 26)) := rfl
def LY_X4X6 : List Shp := [.inr (4, [(2, 1), (2, 2), (0, 0), (0, 0), (0, 0)]), .inl (1, 5), .inl (1, 5), .inr (6, [(2, 4), (2, 5), (2, 6), (2, 7), (0, 0), (2, 8), (2, 9), (2, 10), (2, 11), (2, 12), (2, 13), (2, 14), (2, 15), (0, 0), (0, 0), (0, 0), (0, 0), (0, 0)]), .inl (2, 5), .inl (2, 5), .inl (1, 10), .inl (1, 12), .inl (1, 5), .inl (1, 5), .inl (1, 5), .inl (1, 5), .inl (1, 5), .inl (1, 5), .inl (1, 5), .inr (1, [(2, 16), (2, 17), (0, 0), (0, 0), (0, 0)]), .inl (1, 1000), .inl (1, 32)]
theorem LY_X4X6_0 : (LY_X4X6)[0]? = some (.inr (4, [(2, 1), (2, 2), (0, 0), (0, 0), (0, 0)])) := rfl
theorem LY_X4X6_1 : (LY_X4X6)[1]? = some (.inl (1, 5)) := rfl
theorem LY_X4X6_2 : (LY_X4X6)[2]? = some (.inl (1, 5)) := rfl
theorem LY_X4X6_3 : (LY_X4X6)[3]? = some (.inr (6, [(2, 4), (2, 5), (2, 6), (2, 7), (0, 0), (2, 8), (2, 9), (2, 10), (2, 11), (2, 12), (2, 13), (2, 14), (2, 15), (0, 0), (0, 0), (0, 0), (0, 0), (0, 0)])) := rfl
theorem LY_X4X6_4 : (LY_X4X6)[4]? = some (.inl (2, 5)) := rfl
theorem LY_X4X6_5 : (LY_X4X6)[5]? = some (.inl (2, 5)) := rfl
theorem LY_X4X6_6 : (LY_X4X6)[6]? = some (.inl (1, 10)) := rfl
theorem LY_X4X6_7 : (LY_X4X6)[7]? = some (.inl (1, 12)) := rfl
theorem LY_X4X6_8 : (LY_X4X6)[8]? = some (.inl (1, 5)) := rfl
theorem LY_X4X6_9 : (LY_X4X6)[9]? = some (.inl (1, 5)) := rfl
theorem LY_X4X6_10 : (LY_X4X6)[10]? = some (.inl (1, 5)) := rfl
theorem LY_X4X6_11 : (LY_X4X6)[11]? = some (.inl (1, 5)) := rfl
theorem LY_X4X6_12 : (LY_X4X6)[12]? = some (.inl (1, 5)) := rfl
theorem LY_X4X6_13 : (LY_X4X6)[13]? = some (.inl (1, 5)) := rfl
theorem LY_X4X6_14 : (LY_X4X6)[14]? = some (.inl (1, 5)) := rfl
theorem LY_X4X6_15 : (LY_X4X6)[15]? = some (.inr (1, [(2, 16), (2, 17), (0, 0), (0, 0), (0, 0)])) := rfl
theorem LY_X4X6_16 : (LY_X4X6)[16]? = some (.inl (1, 1000)) := rfl
theorem LY_X4X6_17 : (LY_X4X6)[17]? = some (.inl (1, 32)) := rfl
def LY_X2X6X4 : List Shp := [.inr (2, [(2, 1), (2, 2), (2, 3), (0, 0), (0, 0), (0, 0), (2, 4), (0, 0)]), .inl (1, 5), .inl (1, 6), .inl (1, 10), .inl (1, 5), .inr (6, [(2, 6), (2, 7), (2, 8), (2, 9), (0, 0), (2, 10), (2, 11), (2, 12), (2, 13), (2, 14), (2, 15), (2, 16), (2, 17), (0, 0), (0, 0), (0, 0), (0, 0), (0, 0)]), .inl (2, 5), .inl (2, 5), .inl (1, 10), .inl (1, 12), .inl (1, 5), .inl (1, 5), .inl (1, 5), .inl (1, 5), .inl (1, 5), .inl (1, 5), .inl (1, 5), .inr (1, [(2, 18), (2, 19), (0, 0), (0, 0), (0, 0)]), .inl (1, 1000), .inl (1, 32), .inr (4, [(2, 21), (2, 22), (0, 0), (0, 0), (0, 0)]), .inl (1, 5), .inl (1, 5)]
theorem LY_X2X6X4_0 : (LY_X2X6X4)[0]? = some (.inr (2, [(2, 1), (2, 2), (2, 3), (0, 0), (0, 0), (0, 0), (2, 4), (0, 0)])) := rfl
theorem LY_X2X6X4_1 : (LY_X2X6X4)[1]? = some (.inl (1, 5)) := rfl
theorem LY_X2X6X4_2 : (LY_X2X6X4)[2]? = some (.inl (1, 6)) := rfl
theorem LY_X2X6X4_3 : (LY_X2X6X4)[3]? = some (.inl (1, 10)) := rfl
theorem LY_X2X6X4_4 : (LY_X2X6X4)[4]? = some (.inl (1, 5)) := rfl
theorem LY_X2X6X4_5 : (LY_X2X6X4)[5]? = some (.inr (6, [(2, 6), (2, 7), (2, 8), (2, 9), (0, 0), (2, 10), (2, 11), (2, 12), (2, 13), (2, 14), (2, 15), (2, 16), (2, 17), (0, 0), (0, 0), (0, 0), (0, 0), (0, 0)])) := rfl
theorem LY_X2X6X4_6 : (LY_X2X6X4)[6]? = some (.inl (2, 5)) := rfl
theorem LY_X2X6X4_7 : (LY_X2X6X4)[7]? = some (.inl (2, 5)) := rfl
theorem LY_X2X6X4_8 : (LY_X2X6X4)[8]? = some (.inl (1, 10)) := rfl
theorem LY_X2X6X4_9 : (LY_X2X6X4)[9]? = some (.inl (1, 12)) := rfl
theorem LY_X2X6X4_10 : (LY_X2X6X4)[10]? = some (.inl (1, 5)) := rfl
theorem LY_X2X6X4_11 : (LY_X2X6X4)[11]? = some (.inl (1, 5)) := rfl
theorem LY_X2X6X4_12 : (LY_X2X6X4)[12]? = some (.inl (1, 5)) := rfl
theorem LY_X2X6X4_13 : (LY_X2X6X4)[13]? = some (.inl (1, 5)) := rfl
theorem LY_X2X6X4_14 : (LY_X2X6X4)[14]? = some (.inl (1, 5)) := rfl
theorem LY_X2X6X4_15 : (LY_X2X6X4)[15]? = some (.inl (1, 5)) := rfl
theorem LY_X2X6X4_16 : (LY_X2X6X4)[16]? = some (.inl (1, 5)) := rfl
theorem LY_X2X6X4_17 : (LY_X2X6X4)[17]? = some (.inr (1, [(2, 18), (2, 19), (0, 0), (0, 0), (0, 0)])) := rfl
theorem LY_X2X6X4_18 : (LY_X2X6X4)[18]? = some (.inl (1, 1000)) := rfl
theorem LY_X2X6X4_19 : (LY_X2X6X4)[19]? = some (.inl (1, 32)) := rfl
theorem LY_X2X6X4_20 : (LY_X2X6X4)[20]? = some (.inr (4, [(2, 21), (2, 22), (0, 0), (0, 0), (0, 0)])) := rfl
theorem LY_X2X6X4_21 : (LY_X2X6X4)[21]? = some (.inl (1, 5)) := rfl
theorem LY_X2X6X4_22 : (LY_X2X6X4)[22]? = some (.inl (1, 5)) := rfl
def LY_X2 : List Shp := [.inr (2, [(2, 1), (2, 2), (2, 3), (0, 0), (0, 0), (0, 0), (2, 4), (0, 0)]), .inl (1, 5), .inl (1, 6), .inl (1, 10), .inl (1, 5)]
theorem LY_X2_0 : (LY_X2)[0]? = some (.inr (2, [(2, 1), (2, 2), (2, 3), (0, 0), (0, 0), (0, 0), (2, 4), (0, 0)])) := rfl
theorem LY_X2_1 : (LY_X2)[1]? = some (.inl (1, 5)) := rfl
theorem LY_X2_2 : (LY_X2)[2]? = some (.inl (1, 6)) := rfl
theorem LY_X2_3 : (LY_X2)[3]? = some (.inl (1, 10)) := rfl
theorem LY_X2_4 : (LY_X2)[4]? = some (.inl (1, 5)) := rfl
def LY_X2X6 : List Shp := [.inr (2, [(2, 1), (2, 2), (2, 3), (0, 0), (0, 0), (0, 0), (2, 4), (0, 0)]), .inl (1, 5), .inl (1, 6), .inl (1, 10), .inl (1, 5), .inr (6, [(2, 6), (2, 7), (2, 8), (2, 9), (0, 0), (2, 10), (2, 11), (2, 12), (2, 13), (2, 14), (2, 15), (2, 16), (2, 17), (0, 0), (0, 0), (0, 0), (0, 0), (0, 0)]), .inl (2, 5), .inl (2, 5), .inl (1, 10), .inl (1, 12), .inl (1, 5), .inl (1, 5), .inl (1, 5), .inl (1, 5), .inl (1, 5), .inl (1, 5), .inl (1, 5), .inr (1, [(2, 18), (2, 19), (0, 0), (0, 0), (0, 0)]), .inl (1, 1000), .inl (1, 32)]
theorem LY_X2X6_0 : (LY_X2X6)[0]? = some (.inr (2, [(2, 1), (2, 2), (2, 3), (0, 0), (0, 0), (0, 0), (2, 4), (0, 0)])) := rfl
theorem LY_X2X6_1 : (LY_X2X6)[1]? = some (.inl (1, 5)) := rfl
theorem LY_X2X6_2 : (LY_X2X6)[2]? = some (.inl (1, 6)) := rfl
theorem LY_X2X6_3 : (LY_X2X6)[3]? = some (.inl (1, 10)) := rfl
theorem LY_X2X6_4 : (LY_X2X6)[4]? = some (.inl (1, 5)) := rfl
theorem LY_X2X6_5 : (LY_X2X6)[5]? = some (.inr (6, [(2, 6), (2, 7), (2, 8), (2, 9), (0, 0), (2, 10), (2, 11), (2, 12), (2, 13), (2, 14), (2, 15), (2, 16), (2, 17), (0, 0), (0, 0), (0, 0), (0, 0), (0, 0)])) := rfl
theorem LY_X2X6_6 : (LY_X2X6)[6]? = some (.inl (2, 5)) := rfl
theorem LY_X2X6_7 : (LY_X2X6)[7]? = some (.inl (2, 5)) := rfl
theorem LY_X2X6_8 : (LY_X2X6)[8]? = some (.inl (1, 10)) := rfl
theorem LY_X2X6_9 : (LY_X2X6)[9]? = some (.inl (1, 12)) := rfl
theorem LY_X2X6_10 : (LY_X2X6)[10]? = some (.inl (1, 5)) := rfl
theorem LY_X2X6_11 : (LY_X2X6)[11]? = some (.inl (1, 5)) := rfl
theorem LY_X2X6_12 : (LY_X2X6)[12]? = some (.inl (1, 5)) := rfl
theorem LY_X2X6_13 : (LY_X2X6)[13]? = some (.inl (1, 5)) := rfl
theorem LY_X2X6_14 : (LY_X2X6)[14]? = some (.inl (1, 5)) := rfl
theorem LY_X2X6_15 : (LY_X2X6)[15]? = some (.inl (1, 5)) := rfl
theorem LY_X2X6_16 : (LY_X2X6)[16]? = some (.inl (1, 5)) := rfl
theorem LY_X2X6_17 : (LY_X2X6)[17]? = some (.inr (1, [(2, 18), (2, 19), (0, 0), (0, 0), (0, 0)])) := rfl
theorem LY_X2X6_18 : (LY_X2X6)[18]? = some (.inl (1, 1000)) := rfl
theorem LY_X2X6_19 : (LY_X2X6)[19]? = some (.inl (1, 32)) := rfl
def LY_X4X4 : List Shp := [.inr (4, [(2, 1), (2, 2), (0, 0), (0, 0), (0, 0)]), .inl (1, 5), .inl (1, 5), .inr (4, [(2, 4), (2, 5), (0, 0), (0, 0), (0, 0)]), .inl (1, 5), .inl (1, 5)]
theorem LY_X4X4_0 : (LY_X4X4)[0]? = some (.inr (4, [(2, 1), (2, 2), (0, 0), (0, 0), (0, 0)])) := rfl
theorem LY_X4X4_1 : (LY_X4X4)[1]? = some (.inl (1, 5)) := rfl
theorem LY_X4X4_2 : (LY_X4X4)[2]? = some (.inl (1, 5)) := rfl
theorem LY_X4X4_3 : (LY_X4X4)[3]? = some (.inr (4, [(2, 4), (2, 5), (0, 0), (0, 0), (0, 0)])) := rfl
theorem LY_X4X4_4 : (LY_X4X4)[4]? = some (.inl (1, 5)) := rfl
theorem LY_X4X4_5 : (LY_X4X4)[5]? = some (.inl (1, 5)) := rfl
def LY_X7X7 : List Shp := [.inr (7, [(2, 1), (2, 2), (2, 3), (0, 0)]), .inl (0, 40), .inl (0, 40), .inl (1, 40), .inr (7, [(2, 5), (2, 6), (2, 7), (0, 0)]), .inl (0, 40), .inl (0, 40), .inl (1, 40)]
theorem LY_X7X7_0 : (LY_X7X7)[0]? = some (.inr (7, [(2, 1), (2, 2), (2, 3), (0, 0)])) := rfl
theorem LY_X7X7_1 : (LY_X7X7)[1]? = some (.inl (0, 40)) := rfl
theorem LY_X7X7_2 : (LY_X7X7)[2]? = some (.inl (0, 40)) := rfl
theorem LY_X7X7_3 : (LY_X7X7)[3]? = some (.inl (1, 40)) := rfl
theorem LY_X7X7_4 : (LY_X7X7)[4]? = some (.inr (7, [(2, 5), (2, 6), (2, 7), (0, 0)])) := rfl
theorem LY_X7X7_5 : (LY_X7X7)[5]? = some (.inl (0, 40)) := rfl
theorem LY_X7X7_6 : (LY_X7X7)[6]? = some (.inl (0, 40)) := rfl
theorem LY_X7X7_7 : (LY_X7X7)[7]? = some (.inl (1, 40)) := rfl
def LY_X3X4X7X0 : List Shp := [.inr (3, [(2, 1), (2, 4), (2, 8), (0, 0)]), .inr (4, [(2, 2), (2, 3), (0, 0), (0, 0), (0, 0)]), .inl (1, 5), .inl (1, 5), .inr (7, [(2, 5), (2, 6), (2, 7), (0, 0)]), .inl (0, 40), .inl (0, 40), .inl (1, 40), .inr (0, [(2, 9), (2, 10), (0, 0), (0, 0), (0, 0)]), .inl (1, 8), .inl (3, 8), .inr (4, [(2, 12), (2, 13), (0, 0), (0, 0), (0, 0)]), .inl (1, 5), .inl (1, 5), .inr (7, [(2, 15), (2, 16), (2, 17), (0, 0)]), .inl (0, 40), .inl (0, 40), .inl (1, 40), .inr (0, [(2, 19), (2, 20), (0, 0), (0, 0), (0, 0)]), .inl (1, 8), .inl (3, 8)]
theorem LY_X3X4X7X0_0 : (LY_X3X4X7X0)[0]? = some (.inr (3, [(2, 1), (2, 4), (2, 8), (0, 0)])) := rfl
theorem LY_X3X4X7X0_1 : (LY_X3X4X7X0)[1]? = some (.inr (4, [(2, 2), (2, 3), (0, 0), (0, 0), (0, 0)])) := rfl
theorem LY_X3X4X7X0_2 : (LY_X3X4X7X0)[2]? = some (.inl (1, 5)) := rfl
theorem LY_X3X4X7X0_3 : (LY_X3X4X7X0)[3]? = some (.inl (1, 5)) := rfl
theorem LY_X3X4X7X0_4 : (LY_X3X4X7X0)[4]? = some (.inr (7, [(2, 5), (2, 6), (2, 7), (0, 0)])) := rfl
theorem LY_X3X4X7X0_5 : (LY_X3X4X7X0)[5]? = some (.inl (0, 40)) := rfl
theorem LY_X3X4X7X0_6 : (LY_X3X4X7X0)[6]? = some (.inl (0, 40)) := rfl
theorem LY_X3X4X7X0_7 : (LY_X3X4X7X0)[7]? = some (.inl (1, 40)) := rfl
theorem LY_X3X4X7X0_8 : (LY_X3X4X7X0)[8]? = some (.inr (0, [(2, 9), (2, 10), (0, 0), (0, 0), (0, 0)])) := rfl
theorem LY_X3X4X7X0_9 : (LY_X3X4X7X0)[9]? = some (.inl (1, 8)) := rfl
theorem LY_X3X4X7X0_10 : (LY_X3X4X7X0)[10]? = some (.inl (3, 8)) := rfl
theorem LY_X3X4X7X0_11 : (LY_X3X4X7X0)[11]? = some (.inr (4, [(2, 12), (2, 13), (0, 0), (0, 0), (0, 0)])) := rfl
theorem LY_X3X4X7X0_12 : (LY_X3X4X7X0)[12]? = some (.inl (1, 5)) := rfl
theorem LY_X3X4X7X0_13 : (LY_X3X4X7X0)[13]? = some (.inl (1, 5)) := rfl
theorem LY_X3X4X7X0_14 : (LY_X3X4X7X0)[14]? = some (.inr (7, [(2, 15), (2, 16), (2, 17), (0, 0)])) := rfl
theorem LY_X3X4X7X0_15 : (LY_X3X4X7X0)[15]? = some (.inl (0, 40)) := rfl
theorem LY_X3X4X7X0_16 : (LY_X3X4X7X0)[16]? = some (.inl (0, 40)) := rfl
theorem LY_X3X4X7X0_17 : (LY_X3X4X7X0)[17]? = some (.inl (1, 40)) := rfl
theorem LY_X3X4X7X0_18 : (LY_X3X4X7X0)[18]? = some (.inr (0, [(2, 19), (2, 20), (0, 0), (0, 0), (0, 0)])) := rfl
theorem LY_X3X4X7X0_19 : (LY_X3X4X7X0)[19]? = some (.inl (1, 8)) := rfl
theorem LY_X3X4X7X0_20 : (LY_X3X4X7X0)[20]? = some (.inl (3, 8)) := rfl
def LY_X4 : List Shp := [.inr (4, [(2, 1), (2, 2), (0, 0), (0, 0), (0, 0)]), .inl (1, 5), .inl (1, 5)]
theorem LY_X4_0 : (LY_X4)[0]? = some (.inr (4, [(2, 1), (2, 2), (0, 0), (0, 0), (0, 0)])) := rfl
theorem LY_X4_1 : (LY_X4)[1]? = some (.inl (1, 5)) := rfl
theorem LY_X4_2 : (LY_X4)[2]? = some (.inl (1, 5)) := rfl
def LY_aJ (n1 : Nat) : List Shp := [.inl (2, n1)]
theorem LY_aJ_0 {n1 : Nat} : (LY_aJ n1)[0]? = some (.inl (2, n1)) := rfl
def LY_X6X5 : List Shp := [.inr (6, [(2, 1), (2, 2), (2, 3), (2, 4), (0, 0), (2, 5), (2, 6), (2, 7), (2, 8), (2, 9), (2, 10), (2, 11), (2, 12), (0, 0), (0, 0), (0, 0), (0, 0), (0, 0)]), .inl (2, 5), .inl (2, 5), .inl (1, 10), .inl (1, 12), .inl (1, 5), .inl (1, 5), .inl (1, 5), .inl (1, 5), .inl (1, 5), .inl (1, 5), .inl (1, 5), .inr (1, [(2, 13), (2, 14), (0, 0), (0, 0), (0, 0)]), .inl (1, 1000), .inl (1, 32), .inr (5, [(2, 16), (2, 17), (0, 0), (0, 0), (0, 0), (1, 0), (0, 0), (0, 0), (0, 0), (0, 0)]), .inl (0, 1000), .inl (2, 26)]
theorem LY_X6X5_0 : (LY_X6X5)[0]? = some (.inr (6, [(2, 1), (2, 2), (2, 3), (2, 4), (0, 0), (2, 5), (2, 6), (2, 7), (2, 8), (2, 9), (2, 10), (2, 11), (2, 12), (0, 0), (0, 0), (0, 0), (0, 0), (0, 0)])) := rfl
theorem LY_X6X5_1 : (LY_X6X5)[1]? = some (.inl (2, 5)) := rfl
theorem LY_X6X5_2 : (LY_X6X5)[2]? = some (.inl (2, 5)) := rfl
theorem LY_X6X5_3 : (LY_X6X5)[3]? = some (.inl (1, 10)) := rfl
theorem LY_X6X5_4 : (LY_X6X5)[4]? = some (.inl (1, 12)) := rfl
theorem LY_X6X5_5 : (LY_X6X5)[5]? = some (.inl (1, 5)) := rfl
theorem LY_X6X5_6 : (LY_X6X5)[6]? = some (.inl (1, 5)) := rfl
theorem LY_X6X5_7 : (LY_X6X5)[7]? = some (.inl (1, 5)) := rfl
theorem LY_X6X5_8 : (LY_X6X5)[8]? = some (.inl (1, 5)) := rfl
theorem LY_X6X5_9 : (LY_X6X5)[9]? = some (.inl (1, 5)) := rfl
theorem LY_X6X5_10 : (LY_X6X5)[10]? = some (.inl (1, 5)) := rfl
theorem LY_X6X5_11 : (LY_X6X5)[11]? = some (.inl (1, 5)) := rfl
theorem LY_X6X5_12 : (LY_X6X5)[12]? = some (.inr (1, [(2, 13), (2, 14), (0, 0), (0, 0), (0, 0)])) := rfl
theorem LY_X6X5_13 : (LY_X6X5)[13]? = some (.inl (1, 1000)) := rfl
theorem LY_X6X5_14 : (LY_X6X5)[14]? = some (.inl (1, 32)) := rfl
theorem LY_X6X5_15 : (LY_X6X5)[15]? = some (.inr (5, [(2, 16), (2, 17), (0, 0), (0, 0), (0, 0), (1, 0), (0, 0), (0, 0), (0, 0), (0, 0)])) := rfl
theorem LY_X6X5_16 : (LY_X6X5)[16]? = some (.inl (0, 1000)) := rfl
theorem LY_X6X5_17 : (LY_X6X5)[17]? = some (.inl (2, 26)) := rfl
def LY_X7X5X6 : List Shp := [.inr (7, [(2, 1), (2, 2), (2, 3), (0, 0)]), .inl (0, 40), .inl (0, 40), .inl (1, 40), .inr (5, [(2, 5), (2, 6), (0, 0), (0, 0), (0, 0), (1, 0), (0, 0), (0, 0), (0, 0), (0, 0)]), .inl (0, 1000), .inl (2, 26), .inr (6, [(2, 8), (2, 9), (2, 10), (2, 11), (0, 0), (2, 12), (2, 13), (2, 14), (2, 15), (2, 16), (2, 17), (2, 18), (2, 19), (0, 0), (0, 0), (0, 0), (0, 0), (0, 0)]), .inl (2, 5), .inl (2, 5), .inl (1, 10), .inl (1, 12), .inl (1, 5), .inl (1, 5), .inl (1, 5), .inl (1, 5), .inl (1, 5), .inl (1, 5), .inl (1, 5), .inr (1, [(2, 20), (2, 21), (0, 0), (0, 0), (0, 0)]), .inl (1, 1000), .inl (1, 32)]
theorem LY_X7X5X6_0 : (LY_X7X5X6)[0]? = some (.inr (7, [(2, 1), (2, 2), (2, 3), (0, 0)])) := rfl
theorem LY_X7X5X6_1 : (LY_X7X5X6)[1]? = some (.inl (0, 40)) := rfl
theorem LY_X7X5X6_2 : (LY_X7X5X6)[2]? = some (.inl (0, 40)) := rfl
theorem LY_X7X5X6_3 : (LY_X7X5X6)[3]? = some (.inl (1, 40)) := rfl
theorem LY_X7X5X6_4 : (LY_X7X5X6)[4]? = some (.inr (5, [(2, 5), (2, 6), (0, 0), (0, 0), (0, 0), (1, 0), (0, 0), (0, 0), (0, 0), (0, 0)])) := rfl
theorem LY_X7X5X6_5 : (LY_X7X5X6)[5]? = some (.inl (0, 1000)) := rfl
theorem LY_X7X5X6_6 : (LY_X7X5X6)[6]? = some (.inl (2, 26)) := rfl
theorem LY_X7X5X6_7 : (LY_X7X5X6)[7]? = some (.inr (6, [(2, 8), (2, 9), (2, 10), (2, 11), (0, 0), (2, 12), (2, 13), (2, 14), (2, 15), (2, 16), (2, 17), (2, 18), (2, 19), (0, 0), (0, 0), (0, 0), (0, 0), (0, 0)])) := rfl
theorem LY_X7X5X6_8 : (LY_X7X5X6)[8]? = some (.inl (2, 5)) := rfl
theorem LY_X7X5X6_9 : (LY_X7X5X6)[9]? = some (.inl (2, 5)) := rfl
theorem LY_X7X5X6_10 : (LY_X7X5X6)[10]? = some (.inl (1, 10)) := rfl
theorem LY_X7X5X6_11 : (LY_X7X5X6)[11]? = some (.inl (1, 12)) := rfl
theorem LY_X7X5X6_12 : (LY_X7X5X6)[12]? = some (.inl (1, 5)) := rfl
theorem LY_X7X5X6_13 : (LY_X7X5X6)[13]? = some (.inl (1, 5)) := rfl
theorem LY_X7X5X6_14 : (LY_X7X5X6)[14]? = some (.inl (1, 5)) := rfl
theorem LY_X7X5X6_15 : (LY_X7X5X6)[15]? = some (.inl (1, 5)) := rfl
theorem LY_X7X5X6_16 : (LY_X7X5X6)[16]? = some (.inl (1, 5)) := rfl
theorem LY_X7X5X6_17 : (LY_X7X5X6)[17]? = some (.inl (1, 5)) := rfl
theorem LY_X7X5X6_18 : (LY_X7X5X6)[18]? = some (.inl (1, 5)) := rfl
theorem LY_X7X5X6_19 : (LY_X7X5X6)[19]? = some (.inr (1, [(2, 20), (2, 21), (0, 0), (0, 0), (0, 0)])) := rfl
theorem LY_X7X5X6_20 : (LY_X7X5X6)[20]? = some (.inl (1, 1000)) := rfl
theorem LY_X7X5X6_21 : (LY_X7X5X6)[21]? = some (.inl (1, 32)) := rfl
def LY_X7X6X4 : List Shp := [.inr (7, [(2, 1), (2, 2), (2, 3), (0, 0)]), .inl (0, 40), .inl (0, 40), .inl (1, 40), .inr (6, [(2, 5), (2, 6), (2, 7), (2, 8), (0, 0), (2, 9), (2, 10), (2, 11), (2, 12), (2, 13), (2, 14), (2, 15), (2, 16), (0, 0), (0, 0), (0, 0), (0, 0), (0, 0)]), .inl (2, 5), .inl (2, 5), .inl (1, 10), .inl (1, 12), .inl (1, 5), .inl (1, 5), .inl (1, 5), .inl (1, 5), .inl (1, 5), .inl (1, 5), .inl (1, 5), .inr (1, [(2, 17), (2, 18), (0, 0), (0, 0), (0, 0)]), .inl (1, 1000), .inl (1, 32), .inr (4, [(2, 20), (2, 21), (0, 0), (0, 0), (0, 0)]), .inl (1, 5), .inl (1, 5)]
theorem LY_X7X6X4_0 : (LY_X7X6X4)[0]? = some (.inr (7, [(2, 1), (2, 2), (2, 3), (0, 0)])) := rfl
theorem LY_X7X6X4_1 : (LY_X7X6X4)[1]? = some (.inl (0, 40)) := rfl
theorem LY_X7X6X4_2 : (LY_X7X6X4)[2]? = some (.inl (0, 40)) := rfl
theorem LY_X7X6X4_3 : (LY_X7X6X4)[3]? = some (.inl (1, 40)) := rfl
theorem LY_X7X6X4_4 : (LY_X7X6X4)[4]? = some (.inr (6, [(2, 5), (2, 6), (2, 7), (2, 8), (0, 0), (2, 9), (2, 10), (2, 11), (2, 12), (2, 13), (2, 14), (2, 15), (2, 16), (0, 0), (0, 0), (0, 0), (0, 0), (0, 0)])) := rfl
theorem LY_X7X6X4_5 : (LY_X7X6X4)[5]? = some (.inl (2, 5)) := rfl
theorem LY_X7X6X4_6 : (LY_X7X6X4)[6]? = some (.inl (2, 5)) := rfl
theorem LY_X7X6X4_7 : (LY_X7X6X4)[7]? = some (.inl (1, 10)) := rfl
theorem LY_X7X6X4_8 : (LY_X7X6X4)[8]? = some (.inl (1, 12)) := rfl
theorem LY_X7X6X4_9 : (LY_X7X6X4)[9]? = some (.inl (1, 5)) := rfl
theorem LY_X7X6X4_10 : (LY_X7X6X4)[10]? = some (.inl (1, 5)) := rfl
theorem LY_X7X6X4_11 : (LY_X7X6X4)[11]? = some (.inl (1, 5)) := rfl
theorem LY_X7X6X4_12 : (LY_X7X6X4)[12]? = some (.inl (1, 5)) := rfl
theorem LY_X7X6X4_13 : (LY_X7X6X4)[13]? = some (.inl (1, 5)) := rfl
theorem LY_X7X6X4_14 : (LY_X7X6X4)[14]? = some (.inl (1, 5)) := rfl
theorem LY_X7X6X4_15 : (LY_X7X6X4)[15]? = some (.inl (1, 5)) := rfl
theorem LY_X7X6X4_16 : (LY_X7X6X4)[16]? = some (.inr (1, [(2, 17), (2, 18), (0, 0), (0, 0), (0, 0)])) := rfl
theorem LY_X7X6X4_17 : (LY_X7X6X4)[17]? = some (.inl (1, 1000)) := rfl
theorem LY_X7X6X4_18 : (LY_X7X6X4)[18]? = some (.inl (1, 32)) := rfl
theorem LY_X7X6X4_19 : (LY_X7X6X4)[19]? = some (.inr (4, [(2, 20), (2, 21), (0, 0), (0, 0), (0, 0)])) := rfl
theorem LY_X7X6X4_20 : (LY_X7X6X4)[20]? = some (.inl (1, 5)) := rfl
theorem LY_X7X6X4_21 : (LY_X7X6X4)[21]? = some (.inl (1, 5)) := rfl
def LY_X8_terrace28 : List Shp := [.inr (8, [(2, 1), (2, 4), (2, 7), (2, 10), (2, 13), (2, 18), (2, 63), (2, 127), (2, 127), (2, 142), (2, 146), (0, 0), (0, 0), (1, 0)]), .inr (5, [(2, 2), (2, 3), (0, 0), (0, 0), (0, 0), (1, 0), (0, 0), (0, 0), (0, 0), (0, 0)]), .inl (0, 1000), .inl (2, 26), .inr (4, [(2, 5), (2, 6), (0, 0), (0, 0), (0, 0)]), .inl (1, 5), .inl (1, 5), .inr (4, [(2, 8), (2, 9), (0, 0), (0, 0), (0, 0)]), .inl (1, 5), .inl (1, 5), .inr (0, [(2, 11), (2, 12), (0, 0), (0, 0), (0, 0)]), .inl (1, 8), .inl (3, 8), .inr (2, [(2, 14), (2, 15), (2, 16), (0, 0), (0, 0), (0, 0), (2, 17), (0, 0)]), .inl (1, 5), .inl (1, 6), .inl (1, 10), .inl (1, 5), .inl (4, 4), .inr (3, [(2, 20), (2, 23), (2, 27), (0, 0)]), .inr (4, [(2, 21), (2, 22), (0, 0), (0, 0), (0, 0)]), .inl (1, 5), .inl (1, 5), .inr (7, [(2, 24), (2, 25), (2, 26), (0, 0)]), .inl (0, 40), .inl (0, 40), .inl (1, 40), .inr (0, [(2, 28), (2, 29), (0, 0), (0, 0), (0, 0)]), .inl (1, 8), .inl (3, 8), .inr (3, [(2, 31), (2, 34), (2, 38), (0, 0)]), .inr (4, [(2, 32), (2, 33), (0, 0), (0, 0), (0, 0)]), .inl (1, 5), .inl (1, 5), .inr (7, [(2, 35), (2, 36), (2, 37), (0, 0)]), .inl (0, 40), .inl (0, 40), .inl (1, 40), .inr (0, [(2, 39), (2, 40), (0, 0), (0, 0), (0, 0)]), .inl (1, 8), .inl (3, 8), .inr (3, [(2, 42), (2, 45), (2, 49), (0, 0)]), .inr (4, [(2, 43), (2, 44), (0, 0), (0, 0), (0, 0)]), .inl (1, 5), .inl (1, 5), .inr (7, [(2, 46), (2, 47), (2, 48), (0, 0)]), .inl (0, 40), .inl (0, 40), .inl (1, 40), .inr (0, [(2, 50), (2, 51), (0, 0), (0, 0), (0, 0)]), .inl (1, 8), .inl (3, 8), .inr (3, [(2, 53), (2, 56), (2, 60), (0, 0)]), .inr (4, [(2, 54), (2, 55), (0, 0), (0, 0), (0, 0)]), .inl (1, 5), .inl (1, 5), .inr (7, [(2, 57), (2, 58), (2, 59), (0, 0)]), .inl (0, 40), .inl (0, 40), .inl (1, 40), .inr (0, [(2, 61), (2, 62), (0, 0), (0, 0), (0, 0)]), .inl (1, 8), .inl (3, 8), .inl (5, 16), .inr (4, [(2, 65), (2, 66), (0, 0), (0, 0), (0, 0)]), .inl (1, 5), .inl (1, 5), .inr (4, [(2, 68), (2, 69), (0, 0), (0, 0), (0, 0)]), .inl (1, 5), .inl (1, 5), .inr (4, [(2, 71), (2, 72), (0, 0), (0, 0), (0, 0)]), .inl (1, 5), .inl (1, 5), .inr (4, [(2, 74), (2, 75), (0, 0), (0, 0), (0, 0)]), .inl (1, 5), .inl (1, 5), .inr (4, [(2, 77), (2, 78), (0, 0), (0, 0), (0, 0)]), .inl (1, 5), .inl (1, 5), .inr (4, [(2, 80), (2, 81), (0, 0), (0, 0), (0, 0)]), .inl (1, 5), .inl (1, 5), .inr (4, [(2, 83), (2, 84), (0, 0), (0, 0), (0, 0)]), .inl (1, 5), .inl (1, 5), .inr (4, [(2, 86), (2, 87), (0, 0), (0, 0), (0, 0)]), .inl (1, 5), .inl (1, 5), .inr (4, [(2, 89), (2, 90), (0, 0), (0, 0), (0, 0)]), .inl (1, 5), .inl (1, 5), .inr (4, [(2, 92), (2, 93), (0, 0), (0, 0), (0, 0)]), .inl (1, 5), .inl (1, 5), .inr (4, [(2, 95), (2, 96), (0, 0), (0, 0), (0, 0)]), .inl (1, 5), .inl (1, 5), .inr (4, [(2, 98), (2, 99), (0, 0), (0, 0), (0, 0)]), .inl (1, 5), .inl (1, 5), .inr (4, [(2, 101), (2, 102), (0, 0), (0, 0), (0, 0)]), .inl (1, 5), .inl (1, 5), .inr (4, [(2, 104), (2, 105), (0, 0), (0, 0), (0, 0)]), .inl (1, 5), .inl (1, 5), .inr (4, [(2, 107), (2, 108), (0, 0), (0, 0), (0, 0)]), .inl (1, 5), .inl (1, 5), .inr (4, [(2, 110), (2, 111), (0, 0), (0, 0), (0, 0)]), .inl (1, 5), .inl (1, 5), .inr (6, [(2, 113), (2, 114), (2, 115), (2, 116), (0, 0), (2, 117), (2, 118), (2, 119), (2, 120), (2, 121), (2, 122), (2, 123), (2, 124), (0, 0), (0, 0), (0, 0), (0, 0), (0, 0)]), .inl (2, 5), .inl (2, 5), .inl (1, 10), .inl (1, 12), .inl (1, 5), .inl (1, 5), .inl (1, 5), .inl (1, 5), .inl (1, 5), .inl (1, 5), .inl (1, 5), .inr (1, [(2, 125), (2, 126), (0, 0), (0, 0), (0, 0)]), .inl (1, 1000), .inl (1, 32), .inr (6, [(2, 128), (2, 129), (2, 130), (2, 131), (0, 0), (2, 132), (2, 133), (2, 134), (2, 135), (2, 136), (2, 137), (2, 138), (2, 139), (0, 0), (0, 0), (0, 0), (0, 0), (0, 0)]), .inl (2, 5), .inl (2, 5), .inl (1, 10), .inl (1, 12), .inl (1, 5), .inl (1, 5), .inl (1, 5), .inl (1, 5), .inl (1, 5), .inl (1, 5), .inl (1, 5), .inr (1, [(2, 140), (2, 141), (0, 0), (0, 0), (0, 0)]), .inl (1, 1000), .inl (1, 32), .inr (7, [(2, 143), (2, 144), (2, 145), (0, 0)]), .inl (0, 40), .inl (0, 40), .inl (1, 40), .inr (7, [(2, 147), (2, 148), (2, 149), (0, 0)]), .inl (0, 40), .inl (0, 40), .inl (1, 40)]
theorem LY_X8_terrace28_0 : (LY_X8_terrace28)[0]? = some (.inr (8, [(2, 1), (2, 4), (2, 7), (2, 10), (2, 13), (2, 18), (2, 63), (2, 127), (2, 127), (2, 142), (2, 146), (0, 0), (0, 0), (1, 0)])) := rfl
theorem LY_X8_terrace28_1 : (LY_X8_terrace28)[1]? = some (.inr (5, [(2, 2), (2, 3), (0, 0), (0, 0), (0, 0), (1, 0), (0, 0), (0, 0), (0, 0), (0, 0)])) := rfl
theorem LY_X8_terrace28_2 : (LY_X8_terrace28)[2]? = some (.inl (0, 1000)) := rfl
theorem LY_X8_terrace28_3 : (LY_X8_terrace28)[3]? = some (.inl (2, 26)) := rfl
theorem LY_X8_terrace28_4 : (LY_X8_terrace28)[4]? = some (.inr (4, [(2, 5), (2, 6), (0, 0), (0, 0), (0, 0)])) := rfl
theorem LY_X8_terrace28_5 : (LY_X8_terrace28)[5]? = some (.inl (1, 5)) := rfl
theorem LY_X8_terrace28_6 : (LY_X8_terrace28)[6]? = some (.inl (1, 5)) := rfl
theorem LY_X8_terrace28_7 : (LY_X8_terrace28)[7]? = some (.inr (4, [(2, 8), (2, 9), (0, 0), (0, 0), (0, 0)])) := rfl
theorem LY_X8_terrace28_8 : (LY_X8_terrace28)[8]? = some (.inl (1, 5)) := rfl
theorem LY_X8_terrace28_9 : (LY_X8_terrace28)[9]? = some (.inl (1, 5)) := rfl
theorem LY_X8_terrace28_10 : (LY_X8_terrace28)[10]? = some (.inr (0, [(2, 11), (2, 12), (0, 0), (0, 0), (0, 0)])) := rfl
theorem LY_X8_terrace28_11 : (LY_X8_terrace28)[11]? = some (.inl (1, 8)) := rfl
theorem LY_X8_terrace28_12 : (LY_X8_terrace28)[12]? = some (.inl (3, 8)) := rfl
theorem LY_X8_terrace28_13 : (LY_X8_terrace28)[13]? = some (.inr (2, [(2, 14), (2, 15), (2, 16), (0, 0), (0, 0), (0, 0), (2, 17), (0, 0)])) := rfl
theorem LY_X8_terrace28_14 : (LY_X8_terrace28)[14]? = some (.inl (1, 5)) := rfl
theorem LY_X8_terrace28_15 : (LY_X8_terrace28)[15]? = some (.inl (1, 6)) := rfl
theorem LY_X8_terrace28_16 : (LY_X8_terrace28)[16]? = some (.inl (1, 10)) := rfl
theorem LY_X8_terrace28_17 : (LY_X8_terrace28)[17]? = some (.inl (1, 5)) := rfl
theorem LY_X8_terrace28_18 : (LY_X8_terrace28)[18]? = some (.inl (4, 4)) := rfl
theorem LY_X8_terrace28_19 : (LY_X8_terrace28)[19]? = some (.inr (3, [(2, 20), (2, 23), (2, 27), (0, 0)])) := rfl
theorem LY_X8_terrace28_20 : (LY_X8_terrace28)[20]? = some (.inr (4, [(2, 21), (2, 22), (0, 0), (0, 0), (0, 0)])) := rfl
theorem LY_X8_terrace28_21 : (LY_X8_terrace28)[21]? = some (.inl (1, 5)) := rfl
theorem LY_X8_terrace28_22 : (LY_X8_terrace28)[22]? = some (.inl (1, 5)) := rfl
theorem LY_X8_terrace28_23 : (LY_X8_terrace28)[23]? = some (.inr (7, [(2, 24), (2, 25), (2, 26), (0, 0)])) := rfl
theorem LY_X8_terrace28_24 : (LY_X8_terrace28)[24]? = some (.inl (0, 40)) := rfl
theorem LY_X8_terrace28_25 : (LY_X8_terrace28)[25]? = some (.inl (0, 40)) := rfl
theorem LY_X8_terrace28_26 : (LY_X8_terrace28)[26]? = some (.inl (1, 40)) := rfl
theorem LY_X8_terrace28_27 : (LY_X8_terrace28)[27]? = some (.inr (0, [(2, 28), (2, 29), (0, 0), (0, 0), (0, 0)])) := rfl
theorem LY_X8_terrace28_28 : (LY_X8_terrace28)[28]? = some (.inl (1, 8)) := rfl
theorem LY_X8_terrace28_29 : (LY_X8_terrace28)[29]? = some (.inl (3, 8)) := rfl
theorem LY_X8_terrace28_30 : (LY_X8_terrace28)[30]? = some (.inr (3, [(2, 31), (2, 34), (2, 38), (0, 0)])) := rfl
theorem LY_X8_terrace28_31 : (LY_X8_terrace28)[31]? = some (.inr (4, [(2, 32), (2, 33), (0, 0), (0, 0), (0, 0)])) := rfl
theorem LY_X8_terrace28_32 : (LY_X8_terrace28)[32]? = some (.inl (1, 5)) := rfl
theorem LY_X8_terrace28_33 : (LY_X8_terrace28)[33]? = some (.inl (1, 5)) := rfl
theorem LY_X8_terrace28_34 : (LY_X8_terrace28)[34]? = some (.inr (7, [(2, 35), (2, 36), (2, 37), (0, 0)])) := rfl
theorem LY_X8_terrace28_35 : (LY_X8_terrace28)[35]? = some (.inl (0, 40)) := rfl
theorem LY_X8_terrace28_36 : (LY_X8_terrace28)[36]? = some (.inl (0, 40)) := rfl
theorem LY_X8_terrace28_37 : (LY_X8_terrace28)[37]? = some (.inl (1, 40)) := rfl
theorem LY_X8_terrace28_38 : (LY_X8_terrace28)[38]? = some (.inr (0, [(2, 39), (2, 40), (0, 0), (0, 0), (0, 0)])) := rfl
theorem LY_X8_terrace28_39 : (LY_X8_terrace28)[39]? = some (.inl (1, 8)) := rfl
theorem LY_X8_terrace28_40 : (LY_X8_terrace28)[40]? = some (.inl (3, 8)) := rfl
theorem LY_X8_terrace28_41 : (LY_X8_terrace28)[41]? = some (.inr (3, [(2, 42), (2, 45), (2, 49), (0, 0)])) := rfl
theorem LY_X8_terrace28_42 : (LY_X8_terrace28)[42]? = some (.inr (4, [(2, 43), (2, 44), (0, 0), (0, 0), (0, 0)])) := rfl
theorem LY_X8_terrace28_43 : (LY_X8_terrace28)[43]? = some (.inl (1, 5)) := rfl
theorem LY_X8_terrace28_44 : (LY_X8_terrace28)[44]? = some (.inl (1, 5)) := rfl
theorem LY_X8_terrace28_45 : (LY_X8_terrace28)[45]? = some (.inr (7, [(2, 46), (2, 47), (2, 48), (0, 0)])) := rfl
theorem LY_X8_terrace28_46 : (LY_X8_terrace28)[46]? = some (.inl (0, 40)) := rfl
theorem LY_X8_terrace28_47 : (LY_X8_terrace28)[47]? = some (.inl (0, 40)) := rfl
theorem LY_X8_terrace28_48 : (LY_X8_terrace28)[48]? = some (.inl (1, 40)) := rfl
theorem LY_X8_terrace28_49 : (LY_X8_terrace28)[49]? = some (.inr (0, [(2, 50), (2, 51), (0, 0), (0, 0), (0, 0)])) := rfl
theorem LY_X8_terrace28_50 : (LY_X8_terrace28)[50]? = some (.inl (1, 8)) := rfl
theorem LY_X8_terrace28_51 : (LY_X8_terrace28)[51]? = some (.inl (3, 8)) := rfl
theorem LY_X8_terrace28_52 : (LY_X8_terrace28)[52]? = some (.inr (3, [(2, 53), (2, 56), (2, 60), (0, 0)])) := rfl
theorem LY_X8_terrace28_53 : (LY_X8_terrace28)[53]? = some (.inr (4, [(2, 54), (2, 55), (0, 0), (0, 0), (0, 0)])) := rfl
theorem LY_X8_terrace28_54 : (LY_X8_terrace28)[54]? = some (.inl (1, 5)) := rfl
theorem LY_X8_terrace28_55 : (LY_X8_terrace28)[55]? = some (.inl (1, 5)) := rfl
theorem LY_X8_terrace28_56 : (LY_X8_terrace28)[56]? = some (.inr (7, [(2, 57), (2, 58), (2, 59), (0, 0)])) := rfl
theorem LY_X8_terrace28_57 : (LY_X8_terrace28)[57]? = some (.inl (0, 40)) := rfl
theorem LY_X8_terrace28_58 : (LY_X8_terrace28)[58]? = some (.inl (0, 40)) := rfl
theorem LY_X8_terrace28_59 : (LY_X8_terrace28)[59]? = some (.inl (1, 40)) := rfl
theorem LY_X8_terrace28_60 : (LY_X8_terrace28)[60]? = some (.inr (0, [(2, 61), (2, 62), (0, 0), (0, 0), (0, 0)])) := rfl
theorem LY_X8_terrace28_61 : (LY_X8_terrace28)[61]? = some (.inl (1, 8)) := rfl
theorem LY_X8_terrace28_62 : (LY_X8_terrace28)[62]? = some (.inl (3, 8)) := rfl
theorem LY_X8_terrace28_63 : (LY_X8_terrace28)[63]? = some (.inl (5, 16)) := rfl
theorem LY_X8_terrace28_64 : (LY_X8_terrace28)[64]? = some (.inr (4, [(2, 65), (2, 66), (0, 0), (0, 0), (0, 0)])) := rfl
theorem LY_X8_terrace28_65 : (LY_X8_terrace28)[65]? = some (.inl (1, 5)) := rfl
theorem LY_X8_terrace28_66 : (LY_X8_terrace28)[66]? = some (.inl (1, 5)) := rfl
theorem LY_X8_terrace28_67 : (LY_X8_terrace28)[67]? = some (.inr (4, [(2, 68), (2, 69), (0, 0), (0, 0), (0, 0)])) := rfl
theorem LY_X8_terrace28_68 : (LY_X8_terrace28)[68]? = some (.inl (1, 5)) := rfl
theorem LY_X8_terrace28_69 : (LY_X8_terrace28)[69]? = some (.inl (1, 5)) := rfl
theorem LY_X8_terrace28_70 : (LY_X8_terrace28)[70]? = some (.inr (4, [(2, 71), (2, 72), (0, 0), (0, 0), (0, 0)])) := rfl
theorem LY_X8_terrace28_71 : (LY_X8_terrace28)[71]? = some (.inl (1, 5)) := rfl
theorem LY_X8_terrace28_72 : (LY_X8_terrace28)[72]? = some (.inl (1, 5)) := rfl
theorem LY_X8_terrace28_73 : (LY_X8_terrace28)[73]? = some (.inr (4, [(2, 74), (2, 75), (0, 0), (0, 0), (0, 0)])) := rfl
theorem LY_X8_terrace28_74 : (LY_X8_terrace28)[74]? = some (.inl (1, 5)) := rfl
theorem LY_X8_terrace28_75 : (LY_X8_terrace28)[75]? = some (.inl (1, 5)) := rfl
theorem LY_X8_terrace28_76 : (LY_X8_terrace28)[76]? = some (.inr (4, [(2, 77), (2, 78), (0, 0), (0, 0), (0, 0)])) := rfl
theorem LY_X8_terrace28_77 : (LY_X8_terrace28)[77]? = some (.inl (1, 5)) := rfl
theorem LY_X8_terrace28_78 : (LY_X8_terrace28)[78]? = some (.inl (1, 5)) := rfl
theorem LY_X8_terrace28_79 : (LY_X8_terrace28)[79]? = some (.inr (4, [(2, 80), (2, 81), (0, 0), (0, 0), (0, 0)])) := rfl
theorem LY_X8_terrace28_80 : (LY_X8_terrace28)[80]? = some (.inl (1, 5)) := rfl
theorem LY_X8_terrace28_81 : (LY_X8_terrace28)[81]? = some (.inl (1, 5)) := rfl
theorem LY_X8_terrace28_82 : (LY_X8_terrace28)[82]? = some (.inr (4, [(2, 83), (2, 84), (0, 0), (0, 0), (0, 0)])) := rfl
theorem LY_X8_terrace28_83 : (LY_X8_terrace28)[83]? = some (.inl (1, 5)) := rfl
theorem LY_X8_terrace28_84 : (LY_X8_terrace28)[84]? = some (.inl (1, 5)) := rfl
theorem LY_X8_terrace28_85 : (LY_X8_terrace28)[85]? = some (.inr (4, [(2, 86), (2, 87), (0, 0), (0, 0), (0, 0)])) := rfl
theorem LY_X8_terrace28_86 : (LY_X8_terrace28)[86]? = some (.inl (1, 5)) := rfl
theorem LY_X8_terrace28_87 : (LY_X8_terrace28)[87]? = some (.inl (1, 5)) := rfl
theorem LY_X8_terrace28_88 : (LY_X8_terrace28)[88]? = some (.inr (4, [(2, 89), (2, 90), (0, 0), (0, 0), (0, 0)])) := rfl
theorem LY_X8_terrace28_89 : (LY_X8_terrace28)[89]? = some (.inl (1, 5)) := rfl
theorem LY_X8_terrace28_90 : (LY_X8_terrace28)[90]? = some (.inl (1, 5)) := rfl
theorem LY_X8_terrace28_91 : (LY_X8_terrace28)[91]? = some (.inr (4, [(2, 92), (2, 93), (0, 0), (0, 0), (0, 0)])) := rfl
theorem LY_X8_terrace28_92 : (LY_X8_terrace28)[92]? = some (.inl (1, 5)) := rfl
theorem LY_X8_terrace28_93 : (LY_X8_terrace28)[93]? = some (.inl (1, 5)) := rfl
theorem LY_X8_terrace28_94 : (LY_X8_terrace28)[94]? = some (.inr (4, [(2, 95), (2, 96), (0, 0), (0, 0), (0, 0)])) := rfl
theorem LY_X8_terrace28_95 : (LY_X8_terrace28)[95]? = some (.inl (1, 5)) := rfl
theorem LY_X8_terrace28_96 : (LY_X8_terrace28)[96]? = some (.inl (1, 5)) := rfl
theorem LY_X8_terrace28_97 : (LY_X8_terrace28)[97]? = some (.inr (4, [(2, 98), (2, 99), (0, 0), (0, 0), (0, 0)])) := rfl
theorem LY_X8_terrace28_98 : (LY_X8_terrace28)[98]? = some (.inl (1, 5)) := rfl
theorem LY_X8_terrace28_99 : (LY_X8_terrace28)[99]? = some (.inl (1, 5)) := rfl
theorem LY_X8_terrace28_100 : (LY_X8_terrace28)[100]? = some (.inr (4, [(2, 101), (2, 102), (0, 0), (0, 0), (0, 0)])) := rfl
theorem LY_X8_terrace28_101 : (LY_X8_terrace28)[101]? = some (.inl (1, 5)) := rfl
theorem LY_X8_terrace28_102 : (LY_X8_terrace28)[102]? = some (.inl (1, 5)) := rfl
theorem LY_X8_terrace28_103 : (LY_X8_terrace28)[103]? = some (.inr (4, [(2, 104), (2, 105), (0, 0), (0, 0), (0, 0)])) := rfl
theorem LY_X8_terrace28_104 : (LY_X8_terrace28)[104]? = some (.inl (1, 5)) := rfl
theorem LY_X8_terrace28_105 : (LY_X8_terrace28)[105]? = some (.inl (1, 5)) := rfl
theorem LY_X8_terrace28_106 : (LY_X8_terrace28)[106]? = some (.inr (4, [(2, 107), (2, 108), (0, 0), (0, 0), (0, 0)])) := rfl
theorem LY_X8_terrace28_107 : (LY_X8_terrace28)[107]? = some (.inl (1, 5)) := rfl
theorem LY_X8_terrace28_108 : (LY_X8_terrace28)[108]? = some (.inl (1, 5)) := rfl
theorem LY_X8_terrace28_109 : (LY_X8_terrace28)[109]? = some (.inr (4, [(2, 110), (2, 111), (0, 0), (0, 0), (0, 0)])) := rfl
theorem LY_X8_terrace28_110 : (LY_X8_terrace28)[110]? = some (.inl (1, 5)) := rfl
theorem LY_X8_terrace28_111 : (LY_X8_terrace28)[111]? = some (.inl (1, 5)) := rfl
theorem LY_X8_terrace28_112 : (LY_X8_terrace28)[112]? = some (.inr (6, [(2, 113), (2, 114), (2, 115), (2, 116), (0, 0), (2, 117), (2, 118), (2, 119), (2, 120), (2, 121), (2, 122), (2, 123), (2, 124), (0, 0), (0, 0), (0, 0), (0, 0), (0, 0)])) := rfl
theorem LY_X8_terrace28_113 : (LY_X8_terrace28)[113]? = some (.inl (2, 5)) := rfl
theorem LY_X8_terrace28_114 : (LY_X8_terrace28)[114]? = some (.inl (2, 5)) := rfl
theorem LY_X8_terrace28_115 : (LY_X8_terrace28)[115]? = some (.inl (1, 10)) := rfl
theorem LY_X8_terrace28_116 : (LY_X8_terrace28)[116]? = some (.inl (1, 12)) := rfl
theorem LY_X8_terrace28_117 : (LY_X8_terrace28)[117]? = some (.inl (1, 5)) := rfl
theorem LY_X8_terrace28_118 : (LY_X8_terrace28)[118]? = some (.inl (1, 5)) := rfl
theorem LY_X8_terrace28_119 : (LY_X8_terrace28)[119]? = some (.inl (1, 5)) := rfl
theorem LY_X8_terrace28_120 : (LY_X8_terrace28)[120]? = some (.inl (1, 5)) := rfl
theorem LY_X8_terrace28_121 : (LY_X8_terrace28)[121]? = some (.inl (1, 5)) := rfl
theorem LY_X8_terrace28_122 : (LY_X8_terrace28)[122]? = some (.inl (1, 5)) := rfl
theorem LY_X8_terrace28_123 : (LY_X8_terrace28)[123]? = some (.inl (1, 5)) := rfl
theorem LY_X8_terrace28_124 : (LY_X8_terrace28)[124]? = some (.inr (1, [(2, 125), (2, 126), (0, 0), (0, 0), (0, 0)])) := rfl
theorem LY_X8_terrace28_125 : (LY_X8_terrace28)[125]? = some (.inl (1, 1000)) := rfl
theorem LY_X8_terrace28_126 : (LY_X8_terrace28)[126]? = some (.inl (1, 32)) := rfl
theorem LY_X8_terrace28_127 : (LY_X8_terrace28)[127]? = some (.inr (6, [(2, 128), (2, 129), (2, 130), (2, 131), (0, 0), (2, 132), (2, 133), (2, 134), (2, 135), (2, 136), (2, 137), (2, 138), (2, 139), (0, 0), (0, 0), (0, 0), (0, 0), (0, 0)])) := rfl
theorem LY_X8_terrace28_128 : (LY_X8_terrace28)[128]? = some (.inl (2, 5)) := rfl
theorem LY_X8_terrace28_129 : (LY_X8_terrace28)[129]? = some (.inl (2, 5)) := rfl
theorem LY_X8_terrace28_130 : (LY_X8_terrace28)[130]? = some (.inl (1, 10)) := rfl
theorem LY_X8_terrace28_131 : (LY_X8_terrace28)[131]? = some (.inl (1, 12)) := rfl
theorem LY_X8_terrace28_132 : (LY_X8_terrace28)[132]? = some (.inl (1, 5)) := rfl
theorem LY_X8_terrace28_133 : (LY_X8_terrace28)[133]? = some (.inl (1, 5)) := rfl
theorem LY_X8_terrace28_134 : (LY_X8_terrace28)[134]? = some (.inl (1, 5)) := rfl
theorem LY_X8_terrace28_135 : (LY_X8_terrace28)[135]? = some (.inl (1, 5)) := rfl
theorem LY_X8_terrace28_136 : (LY_X8_terrace28)[136]? = some (.inl (1, 5)) := rfl
theorem LY_X8_terrace28_137 : (LY_X8_terrace28)[137]? = some (.inl (1, 5)) := rfl
theorem LY_X8_terrace28_138 : (LY_X8_terrace28)[138]? = some (.inl (1, 5)) := rfl
theorem LY_X8_terrace28_139 : (LY_X8_terrace28)[139]? = some (.inr (1, [(2, 140), (2, 141), (0, 0), (0, 0), (0, 0)])) := rfl
theorem LY_X8_terrace28_140 : (LY_X8_terrace28)[140]? = some (.inl (1, 1000)) := rfl
theorem LY_X8_terrace28_141 : (LY_X8_terrace28)[141]? = some (.inl (1, 32)) := rfl
theorem LY_X8_terrace28_142 : (LY_X8_terrace28)[142]? = some (.inr (7, [(2, 143), (2, 144), (2, 145), (0, 0)])) := rfl
theorem LY_X8_terrace28_143 : (LY_X8_terrace28)[143]? = some (.inl (0, 40)) := rfl
theorem LY_X8_terrace28_144 : (LY_X8_terrace28)[144]? = some (.inl (0, 40)) := rfl
theorem LY_X8_terrace28_145 : (LY_X8_terrace28)[145]? = some (.inl (1, 40)) := rfl
theorem LY_X8_terrace28_146 : (LY_X8_terrace28)[146]? = some (.inr (7, [(2, 147), (2, 148), (2, 149), (0, 0)])) := rfl
theorem LY_X8_terrace28_147 : (LY_X8_terrace28)[147]? = some (.inl (0, 40)) := rfl
theorem LY_X8_terrace28_148 : (LY_X8_terrace28)[148]? = some (.inl (0, 40)) := rfl
theorem LY_X8_terrace28_149 : (LY_X8_terrace28)[149]? = some (.inl (1, 40)) := rfl
def LY_X8_terrace33 : List Shp := [.inr (8, [(2, 1), (2, 4), (2, 7), (2, 10), (2, 13), (2, 18), (2, 63), (2, 127), (2, 112), (2, 142), (2, 146), (0, 0), (0, 0), (1, 0)]), .inr (5, [(2, 2), (2, 3), (0, 0), (0, 0), (0, 0), (1, 0), (0, 0), (0, 0), (0, 0), (0, 0)]), .inl (0, 1000), .inl (2, 26), .inr (4, [(2, 5), (2, 6), (0, 0), (0, 0), (0, 0)]), .inl (1, 5), .inl (1, 5), .inr (4, [(2, 8), (2, 9), (0, 0), (0, 0), (0, 0)]), .inl (1, 5), .inl (1, 5), .inr (0, [(2, 11), (2, 12), (0, 0), (0, 0), (0, 0)]), .inl (1, 8), .inl (3, 8), .inr (2, [(2, 14), (2, 15), (2, 16), (0, 0), (0, 0), (0, 0), (2, 17), (0, 0)]), .inl (1, 5), .inl (1, 6), .inl (1, 10), .inl (1, 5), .inl (4, 4), .inr (3, [(2, 20), (2, 23), (2, 27), (0, 0)]), .inr (4, [(2, 21), (2, 22), (0, 0), (0, 0), (0, 0)]), .inl (1, 5), .inl (1, 5), .inr (7, [(2, 24), (2, 25), (2, 26), (0, 0)]), .inl (0, 40), .inl (0, 40), .inl (1, 40), .inr (0, [(2, 28), (2, 29), (0, 0), (0, 0), (0, 0)]), .inl (1, 8), .inl (3, 8), .inr (3, [(2, 31), (2, 34), (2, 38), (0, 0)]), .inr (4, [(2, 32), (2, 33), (0, 0), (0, 0), (0, 0)]), .inl (1, 5), .inl (1, 5), .inr (7, [(2, 35), (2, 36), (2, 37), (0, 0)]), .inl (0, 40), .inl (0, 40), .inl (1, 40), .inr (0, [(2, 39), (2, 40), (0, 0), (0, 0), (0, 0)]), .inl (1, 8), .inl (3, 8), .inr (3, [(2, 42), (2, 45), (2, 49), (0, 0)]), .inr (4, [(2, 43), (2, 44), (0, 0), (0, 0), (0, 0)]), .inl (1, 5), .inl (1, 5), .inr (7, [(2, 46), (2, 47), (2, 48), (0, 0)]), .inl (0, 40), .inl (0, 40), .inl (1, 40), .inr (0, [(2, 50), (2, 51), (0, 0), (0, 0), (0, 0)]), .inl (1, 8), .inl (3, 8), .inr (3, [(2, 53), (2, 56), (2, 60), (0, 0)]), .inr (4, [(2, 54), (2, 55), (0, 0), (0, 0), (0, 0)]), .inl (1, 5), .inl (1, 5), .inr (7, [(2, 57), (2, 58), (2, 59), (0, 0)]), .inl (0, 40), .inl (0, 40), .inl (1, 40), .inr (0, [(2, 61), (2, 62), (0, 0), (0, 0), (0, 0)]), .inl (1, 8), .inl (3, 8), .inl (5, 16), .inr (4, [(2, 65), (2, 66), (0, 0), (0, 0), (0, 0)]), .inl (1, 5), .inl (1, 5), .inr (4, [(2, 68), (2, 69), (0, 0), (0, 0), (0, 0)]), .inl (1, 5), .inl (1, 5), .inr (4, [(2, 71), (2, 72), (0, 0), (0, 0), (0, 0)]), .inl (1, 5), .inl (1, 5), .inr (4, [(2, 74), (2, 75), (0, 0), (0, 0), (0, 0)]), .inl (1, 5), .inl (1, 5), .inr (4, [(2, 77), (2, 78), (0, 0), (0, 0), (0, 0)]), .inl (1, 5), .inl (1, 5), .inr (4, [(2, 80), (2, 81), (0, 0), (0, 0), (0, 0)]), .inl (1, 5), .inl (1, 5), .inr (4, [(2, 83), (2, 84), (0, 0), (0, 0), (0, 0)]), .inl (1, 5), .inl (1, 5), .inr (4, [(2, 86), (2, 87), (0, 0), (0, 0), (0, 0)]), .inl (1, 5), .inl (1, 5), .inr (4, [(2, 89), (2, 90), (0, 0), (0, 0), (0, 0)]), .inl (1, 5), .inl (1, 5), .inr (4, [(2, 92), (2, 93), (0, 0), (0, 0), (0, 0)]), .inl (1, 5), .inl (1, 5), .inr (4, [(2, 95), (2, 96), (0, 0), (0, 0), (0, 0)]), .inl (1, 5), .inl (1, 5), .inr (4, [(2, 98), (2, 99), (0, 0), (0, 0), (0, 0)]), .inl (1, 5), .inl (1, 5), .inr (4, [(2, 101), (2, 102), (0, 0), (0, 0), (0, 0)]), .inl (1, 5), .inl (1, 5), .inr (4, [(2, 104), (2, 105), (0, 0), (0, 0), (0, 0)]), .inl (1, 5), .inl (1, 5), .inr (4, [(2, 107), (2, 108), (0, 0), (0, 0), (0, 0)]), .inl (1, 5), .inl (1, 5), .inr (4, [(2, 110), (2, 111), (0, 0), (0, 0), (0, 0)]), .inl (1, 5), .inl (1, 5), .inr (6, [(2, 113), (2, 114), (2, 115), (2, 116), (0, 0), (2, 117), (2, 118), (2, 119), (2, 120), (2, 121), (2, 122), (2, 123), (2, 124), (0, 0), (0, 0), (0, 0), (0, 0), (0, 0)]), .inl (2, 5), .inl (2, 5), .inl (1, 10), .inl (1, 12), .inl (1, 5), .inl (1, 5), .inl (1, 5), .inl (1, 5), .inl (1, 5), .inl (1, 5), .inl (1, 5), .inr (1, [(2, 125), (2, 126), (0, 0), (0, 0), (0, 0)]), .inl (1, 1000), .inl (1, 32), .inr (6, [(2, 128), (2, 129), (2, 130), (2, 131), (0, 0), (2, 132), (2, 133), (2, 134), (2, 135), (2, 136), (2, 137), (2, 138), (2, 139), (0, 0), (0, 0), (0, 0), (0, 0), (0, 0)]), .inl (2, 5), .inl (2, 5), .inl (1, 10), .inl (1, 12), .inl (1, 5), .inl (1, 5), .inl (1, 5), .inl (1, 5), .inl (1, 5), .inl (1, 5), .inl (1, 5), .inr (1, [(2, 140), (2, 141), (0, 0), (0, 0), (0, 0)]), .inl (1, 1000), .inl (1, 32), .inr (7, [(2, 143), (2, 144), (2, 145), (0, 0)]), .inl (0, 40), .inl (0, 40), .inl (1, 40), .inr (7, [(2, 147), (2, 148), (2, 149), (0, 0)]), .inl (0, 40), .inl (0, 40), .inl (1, 40)]
theorem LY_X8_terrace33_0 : (LY_X8_terrace33)[0]? = some (.inr (8, [(2, 1), (2, 4), (2, 7), (2, 10), (2, 13), (2, 18), (2, 63), (2, 127), (2, 112), (2, 142), (2, 146), (0, 0), (0, 0), (1, 0)])) := rfl
theorem LY_X8_terrace33_1 : (LY_X8_terrace33)[1]? = some (.inr (5, [(2, 2), (2, 3), (0, 0), (0, 0), (0, 0), (1, 0), (0, 0), (0, 0), (0, 0), (0, 0)])) := rfl
theorem LY_X8_terrace33_2 : (LY_X8_terrace33)[2]? = some (.inl (0, 1000)) := rfl
theorem LY_X8_terrace33_3 : (LY_X8_terrace33)[3]? = some (.inl (2, 26)) := rfl
theorem LY_X8_terrace33_4 : (LY_X8_terrace33)[4]? = some (.inr (4, [(2, 5), (2, 6), (0, 0), (0, 0), (0, 0)])) := rfl
theorem LY_X8_terrace33_5 : (LY_X8_terrace33)[5]? = some (.inl (1, 5)) := rfl
theorem LY_X8_terrace33_6 : (LY_X8_terrace33)[6]? = some (.inl (1, 5)) := rfl
theorem LY_X8_terrace33_7 : (LY_X8_terrace33)[7]? = some (.inr (4, [(2, 8), (2, 9), (0, 0), (0, 0), (0, 0)])) := rfl
theorem LY_X8_terrace33_8 : (LY_X8_terrace33)[8]? = some (.inl (1, 5)) := rfl
theorem LY_X8_terrace33_9 : (LY_X8_terrace33)[9]? = some (.inl (1, 5)) := rfl
theorem LY_X8_terrace33_10 : (LY_X8_terrace33)[10]? = some (.inr (0, [(2, 11), (2, 12), (0, 0), (0, 0), (0, 0)])) := rfl
theorem LY_X8_terrace33_11 : (LY_X8_terrace33)[11]? = some (.inl (1, 8)) := rfl
theorem LY_X8_terrace33_12 : (LY_X8_terrace33)[12]? = some (.inl (3, 8)) := rfl
theorem LY_X8_terrace33_13 : (LY_X8_terrace33)[13]? = some (.inr (2, [(2, 14), (2, 15), (2, 16), (0, 0), (0, 0), (0, 0), (2, 17), (0, 0)])) := rfl
theorem LY_X8_terrace33_14 : (LY_X8_terrace33)[14]? = some (.inl (1, 5)) := rfl
theorem LY_X8_terrace33_15 : (LY_X8_terrace33)[15]? = some (.inl (1, 6)) := rfl
theorem LY_X8_terrace33_16 : (LY_X8_terrace33)[16]? = some (.inl (1, 10)) := rfl
theorem LY_X8_terrace33_17 : (LY_X8_terrace33)[17]? = some (.inl (1, 5)) := rfl
theorem LY_X8_terrace33_18 : (LY_X8_terrace33)[18]? = some (.inl (4, 4)) := rfl
theorem LY_X8_terrace33_19 : (LY_X8_terrace33)[19]? = some (.inr (3, [(2, 20), (2, 23), (2, 27), (0, 0)])) := rfl
theorem LY_X8_terrace33_20 : (LY_X8_terrace33)[20]? = some (.inr (4, [(2, 21), (2, 22), (0, 0), (0, 0), (0, 0)])) := rfl
theorem LY_X8_terrace33_21 : (LY_X8_terrace33)[21]? = some (.inl (1, 5)) := rfl
theorem LY_X8_terrace33_22 : (LY_X8_terrace33)[22]? = some (.inl (1, 5)) := rfl
theorem LY_X8_terrace33_23 : (LY_X8_terrace33)[23]? = some (.inr (7, [(2, 24), (2, 25), (2, 26), (0, 0)])) := rfl
theorem LY_X8_terrace33_24 : (LY_X8_terrace33)[24]? = some (.inl (0, 40)) := rfl
theorem LY_X8_terrace33_25 : (LY_X8_terrace33)[25]? = some (.inl (0, 40)) := rfl
theorem LY_X8_terrace33_26 : (LY_X8_terrace33)[26]? = some (.inl (1, 40)) := rfl
theorem LY_X8_terrace33_27 : (LY_X8_terrace33)[27]? = some (.inr (0, [(2, 28), (2, 29), (0, 0), (0, 0), (0, 0)])) := rfl
theorem LY_X8_terrace33_28 : (LY_X8_terrace33)[28]? = some (.inl (1, 8)) := rfl
theorem LY_X8_terrace33_29 : (LY_X8_terrace33)[29]? = some (.inl (3, 8)) := rfl
theorem LY_X8_terrace33_30 : (LY_X8_terrace33)[30]? = some (.inr (3, [(2, 31), (2, 34), (2, 38), (0, 0)])) := rfl
theorem LY_X8_terrace33_31 : (LY_X8_terrace33)[31]? = some (.inr (4, [(2, 32), (2, 33), (0, 0), (0, 0), (0, 0)])) := rfl
theorem LY_X8_terrace33_32 : (LY_X8_terrace33)[32]? = some (.inl (1, 5)) := rfl
theorem LY_X8_terrace33_33 : (LY_X8_terrace33)[33]? = some (.inl (1, 5)) := rfl
theorem LY_X8_terrace33_34 : (LY_X8_terrace33)[34]? = some (.inr (7, [(2, 35), (2, 36), (2, 37), (0, 0)])) := rfl
theorem LY_X8_terrace33_35 : (LY_X8_terrace33)[35]? = some (.inl (0, 40)) := rfl
theorem LY_X8_terrace33_36 : (LY_X8_terrace33)[36]? = some (.inl (0, 40)) := rfl
theorem LY_X8_terrace33_37 : (LY_X8_terrace33)[37]? = some (.inl (1, 40)) := rfl
theorem LY_X8_terrace33_38 : (LY_X8_terrace33)[38]? = some (.inr (0, [(2, 39), (2, 40), (0, 0), (0, 0), (0, 0)])) := rfl
theorem LY_X8_terrace33_39 : (LY_X8_terrace33)[39]? = some (.inl (1, 8)) := rfl
theorem LY_X8_terrace33_40 : (LY_X8_terrace33)[40]? = some (.inl (3, 8)) := rfl
theorem LY_X8_terrace33_41 : (LY_X8_terrace33)[41]? = some (.inr (3, [(2, 42), (2, 45), (2, 49), (0, 0)])) := rfl
theorem LY_X8_terrace33_42 : (LY_X8_terrace33)[42]? = some (.inr (4, [(2, 43), (2, 44), (0, 0), (0, 0), (0, 0)])) := rfl
theorem LY_X8_terrace33_43 : (LY_X8_terrace33)[43]? = some (.inl (1, 5)) := rfl
theorem LY_X8_terrace33_44 : (LY_X8_terrace33)[44]? = some (.inl (1, 5)) := rfl
theorem LY_X8_terrace33_45 : (LY_X8_terrace33)[45]? = some (.inr (7, [(2, 46), (2, 47), (2, 48), (0, 0)])) := rfl
theorem LY_X8_terrace33_46 : (LY_X8_terrace33)[46]? = some (.inl (0, 40)) := rfl
theorem LY_X8_terrace33_47 : (LY_X8_terrace33)[47]? = some (.inl (0, 40)) := rfl
theorem LY_X8_terrace33_48 : (LY_X8_terrace33)[48]? = some (.inl (1, 40)) := rfl
theorem LY_X8_terrace33_49 : (LY_X8_terrace33)[49]? = some (.inr (0, [(2, 50), (2, 51), (0, 0), (0, 0), (0, 0)])) := rfl
theorem LY_X8_terrace33_50 : (LY_X8_terrace33)[50]? = some (.inl (1, 8)) := rfl
theorem LY_X8_terrace33_51 : (LY_X8_terrace33)[51]? = some (.inl (3, 8)) := rfl
theorem LY_X8_terrace33_52 : (LY_X8_terrace33)[52]? = some (.inr (3, [(2, 53), (2, 56), (2, 60), (0, 0)])) := rfl
theorem LY_X8_terrace33_53 : (LY_X8_terrace33)[53]? = some (.inr (4, [(2, 54), (2, 55), (0, 0), (0, 0), (0, 0)])) := rfl
theorem LY_X8_terrace33_54 : (LY_X8_terrace33)[54]? = some (.inl (1, 5)) := rfl
theorem LY_X8_terrace33_55 : (LY_X8_terrace33)[55]? = some (.inl (1, 5)) := rfl
theorem LY_X8_terrace33_56 : (LY_X8_terrace33)[56]? = some (.inr (7, [(2, 57), (2, 58), (2, 59), (0, 0)])) := rfl
theorem LY_X8_terrace33_57 : (LY_X8_terrace33)[57]? = some (.inl (0, 40)) := rfl
theorem LY_X8_terrace33_58 : (LY_X8_terrace33)[58]? = some (.inl (0, 40)) := rfl
theorem LY_X8_terrace33_59 : (LY_X8_terrace33)[59]? = some (.inl (1, 40)) := rfl
theorem LY_X8_terrace33_60 : (LY_X8_terrace33)[60]? = some (.inr (0, [(2, 61), (2, 62), (0, 0), (0, 0), (0, 0)])) := rfl
theorem LY_X8_terrace33_61 : (LY_X8_terrace33)[61]? = some (.inl (1, 8)) := rfl
theorem LY_X8_terrace33_62 : (LY_X8_terrace33)[62]? = some (.inl (3, 8)) := rfl
theorem LY_X8_terrace33_63 : (LY_X8_terrace33)[63]? = some (.inl (5, 16)) := rfl
theorem LY_X8_terrace33_64 : (LY_X8_terrace33)[64]? = some (.inr (4, [(2, 65), (2, 66), (0, 0), (0, 0), (0, 0)])) := rfl
theorem LY_X8_terrace33_65 : (LY_X8_terrace33)[65]? = some (.inl (1, 5)) := rfl
theorem LY_X8_terrace33_66 : (LY_X8_terrace33)[66]? = some (.inl (1, 5)) := rfl
theorem LY_X8_terrace33_67 : (LY_X8_terrace33)[67]? = some (.inr (4, [(2, 68), (2, 69), (0, 0), (0, 0), (0, 0)])) := rfl
theorem LY_X8_terrace33_68 : (LY_X8_terrace33)[68]? = some (.inl (1, 5)) := rfl
theorem LY_X8_terrace33_69 : (LY_X8_terrace33)[69]? = some (.inl (1, 5)) := rfl
theorem LY_X8_terrace33_70 : (LY_X8_terrace33)[70]? = some (.inr (4, [(2, 71), (2, 72), (0, 0), (0, 0), (0, 0)])) := rfl
theorem LY_X8_terrace33_71 : (LY_X8_terrace33)[71]? = some (.inl (1, 5)) := rfl
theorem LY_X8_terrace33_72 : (LY_X8_terrace33)[72]? = some (.inl (1, 5)) := rfl
theorem LY_X8_terrace33_73 : (LY_X8_terrace33)[73]? = some (.inr (4, [(2, 74), (2, 75), (0, 0), (0, 0), (0, 0)])) := rfl
theorem LY_X8_terrace33_74 : (LY_X8_terrace33)[74]? = some (.inl (1, 5)) := rfl
theorem LY_X8_terrace33_75 : (LY_X8_terrace33)[75]? = some (.inl (1, 5)) := rfl
theorem LY_X8_terrace33_76 : (LY_X8_terrace33)[76]? = some (.inr (4, [(2, 77), (2, 78), (0, 0), (0, 0), (0, 0)])) := rfl
theorem LY_X8_terrace33_77 : (LY_X8_terrace33)[77]? = some (.inl (1, 5)) := rfl
theorem LY_X8_terrace33_78 : (LY_X8_terrace33)[78]? = some (.inl (1, 5)) := rfl
theorem LY_X8_terrace33_79 : (LY_X8_terrace33)[79]? = some (.inr (4, [(2, 80), (2, 81), (0, 0), (0, 0), (0, 0)])) := rfl
theorem LY_X8_terrace33_80 : (LY_X8_terrace33)[80]? = some (.inl (1, 5)) := rfl
theorem LY_X8_terrace33_81 : (LY_X8_terrace33)[81]? = some (.inl (1, 5)) := rfl
theorem LY_X8_terrace33_82 : (LY_X8_terrace33)[82]? = some (.inr (4, [(2, 83), (2, 84), (0, 0), (0, 0), (0, 0)])) := rfl
theorem LY_X8_terrace33_83 : (LY_X8_terrace33)[83]? = some (.inl (1, 5)) := rfl
theorem LY_X8_terrace33_84 : (LY_X8_terrace33)[84]? = some (.inl (1, 5)) := rfl
theorem LY_X8_terrace33_85 : (LY_X8_terrace33)[85]? = some (.inr (4, [(2, 86), (2, 87), (0, 0), (0, 0), (0, 0)])) := rfl
theorem LY_X8_terrace33_86 : (LY_X8_terrace33)[86]? = some (.inl (1, 5)) := rfl
theorem LY_X8_terrace33_87 : (LY_X8_terrace33)[87]? = some (.inl (1, 5)) := rfl
theorem LY_X8_terrace33_88 : (LY_X8_terrace33)[88]? = some (.inr (4, [(2, 89), (2, 90), (0, 0), (0, 0), (0, 0)])) := rfl
theorem LY_X8_terrace33_89 : (LY_X8_terrace33)[89]? = some (.inl (1, 5)) := rfl
theorem LY_X8_terrace33_90 : (LY_X8_terrace33)[90]? = some (.inl (1, 5)) := rfl
theorem LY_X8_terrace33_91 : (LY_X8_terrace33)[91]? = some (.inr (4, [(2, 92), (2, 93), (0, 0), (0, 0), (0, 0)])) := rfl
theorem LY_X8_terrace33_92 : (LY_X8_terrace33)[92]? = some (.inl (1, 5)) := rfl
theorem LY_X8_terrace33_93 : (LY_X8_terrace33)[93]? = some (.inl (1, 5)) := rfl
theorem LY_X8_terrace33_94 : (LY_X8_terrace33)[94]? = some (.inr (4, [(2, 95), (2, 96), (0, 0), (0, 0), (0, 0)])) := rfl
theorem LY_X8_terrace33_95 : (LY_X8_terrace33)[95]? = some (.inl (1, 5)) := rfl
theorem LY_X8_terrace33_96 : (LY_X8_terrace33)[96]? = some (.inl (1, 5)) := rfl
theorem LY_X8_terrace33_97 : (LY_X8_terrace33)[97]? = some (.inr (4, [(2, 98), (2, 99), (0, 0), (0, 0), (0, 0)])) := rfl
theorem LY_X8_terrace33_98 : (LY_X8_terrace33)[98]? = some (.inl (1, 5)) := rfl
theorem LY_X8_terrace33_99 : (LY_X8_terrace33)[99]? = some (.inl (1, 5)) := rfl
theorem LY_X8_terrace33_100 : (LY_X8_terrace33)[100]? = some (.inr (4, [(2, 101), (2, 102), (0, 0), (0, 0), (0, 0)])) := rfl
theorem LY_X8_terrace33_101 : (LY_X8_terrace33)[101]? = some (.inl (1, 5)) := rfl
theorem LY_X8_terrace33_102 : (LY_X8_terrace33)[102]? = some (.inl (1, 5)) := rfl
theorem LY_X8_terrace33_103 : (LY_X8_terrace33)[103]? = some (.inr (4, [(2, 104), (2, 105), (0, 0), (0, 0), (0, 0)])) := rfl
theorem LY_X8_terrace33_104 : (LY_X8_terrace33)[104]? = some (.inl (1, 5)) := rfl
theorem LY_X8_terrace33_105 : (LY_X8_terrace33)[105]? = some (.inl (1, 5)) := rfl
theorem LY_X8_terrace33_106 : (LY_X8_terrace33)[106]? = some (.inr (4, [(2, 107), (2, 108), (0, 0), (0, 0), (0, 0)])) := rfl
theorem LY_X8_terrace33_107 : (LY_X8_terrace33)[107]? = some (.inl (1, 5)) := rfl
theorem LY_X8_terrace33_108 : (LY_X8_terrace33)[108]? = some (.inl (1, 5)) := rfl
theorem LY_X8_terrace33_109 : (LY_X8_terrace33)[109]? = some (.inr (4, [(2, 110), (2, 111), (0, 0), (0, 0), (0, 0)])) := rfl
theorem LY_X8_terrace33_110 : (LY_X8_terrace33)[110]? = some (.inl (1, 5)) := rfl
theorem LY_X8_terrace33_111 : (LY_X8_terrace33)[111]? = some (.inl (1, 5)) := rfl
theorem LY_X8_terrace33_112 : (LY_X8_terrace33)[112]? = some (.inr (6, [(2, 113), (2, 114), (2, 115), (2, 116), (0, 0), (2, 117), (2, 118), (2, 119), (2, 120), (2, 121), (2, 122), (2, 123), (2, 124), (0, 0), (0, 0), (0, 0), (0, 0), (0, 0)])) := rfl
theorem LY_X8_terrace33_113 : (LY_X8_terrace33)[113]? = some (.inl (2, 5)) := rfl
theorem LY_X8_terrace33_114 : (LY_X8_terrace33)[114]? = some (.inl (2, 5)) := rfl
theorem LY_X8_terrace33_115 : (LY_X8_terrace33)[115]? = some (.inl (1, 10)) := rfl
theorem LY_X8_terrace33_116 : (LY_X8_terrace33)[116]? = some (.inl (1, 12)) := rfl
theorem LY_X8_terrace33_117 : (LY_X8_terrace33)[117]? = some (.inl (1, 5)) := rfl
theorem LY_X8_terrace33_118 : (LY_X8_terrace33)[118]? = some (.inl (1, 5)) := rfl
theorem LY_X8_terrace33_119 : (LY_X8_terrace33)[119]? = some (.inl (1, 5)) := rfl
theorem LY_X8_terrace33_120 : (LY_X8_terrace33)[120]? = some (.inl (1, 5)) := rfl
theorem LY_X8_terrace33_121 : (LY_X8_terrace33)[121]? = some (.inl (1, 5)) := rfl
theorem LY_X8_terrace33_122 : (LY_X8_terrace33)[122]? = some (.inl (1, 5)) := rfl
theorem LY_X8_terrace33_123 : (LY_X8_terrace33)[123]? = some (.inl (1, 5)) := rfl
theorem LY_X8_terrace33_124 : (LY_X8_terrace33)[124]? = some (.inr (1, [(2, 125), (2, 126), (0, 0), (0, 0), (0, 0)])) := rfl
theorem LY_X8_terrace33_125 : (LY_X8_terrace33)[125]? = some (.inl (1, 1000)) := rfl
theorem LY_X8_terrace33_126 : (LY_X8_terrace33)[126]? = some (.inl (1, 32)) := rfl
theorem LY_X8_terrace33_127 : (LY_X8_terrace33)[127]? = some (.inr (6, [(2, 128), (2, 129), (2, 130), (2, 131), (0, 0), (2, 132), (2, 133), (2, 134), (2, 135), (2, 136), (2, 137), (2, 138), (2, 139), (0, 0), (0, 0), (0, 0), (0, 0), (0, 0)])) := rfl
theorem LY_X8_terrace33_128 : (LY_X8_terrace33)[128]? = some (.inl (2, 5)) := rfl
theorem LY_X8_terrace33_129 : (LY_X8_terrace33)[129]? = some (.inl (2, 5)) := rfl
theorem LY_X8_terrace33_130 : (LY_X8_terrace33)[130]? = some (.inl (1, 10)) := rfl
theorem LY_X8_terrace33_131 : (LY_X8_terrace33)[131]? = some (.inl (1, 12)) := rfl
theorem LY_X8_terrace33_132 : (LY_X8_terrace33)[132]? = some (.inl (1, 5)) := rfl
theorem LY_X8_terrace33_133 : (LY_X8_terrace33)[133]? = some (.inl (1, 5)) := rfl
theorem LY_X8_terrace33_134 : (LY_X8_terrace33)[134]? = some (.inl (1, 5)) := rfl
theorem LY_X8_terrace33_135 : (LY_X8_terrace33)[135]? = some (.inl (1, 5)) := rfl
theorem LY_X8_terrace33_136 : (LY_X8_terrace33)[136]? = some (.inl (1, 5)) := rfl
theorem LY_X8_terrace33_137 : (LY_X8_terrace33)[137]? = some (.inl (1, 5)) := rfl
theorem LY_X8_terrace33_138 : (LY_X8_terrace33)[138]? = some (.inl (1, 5)) := rfl
theorem LY_X8_terrace33_139 : (LY_X8_terrace33)[139]? = some (.inr (1, [(2, 140), (2, 141), (0, 0), (0, 0), (0, 0)])) := rfl
theorem LY_X8_terrace33_140 : (LY_X8_terrace33)[140]? = some (.inl (1, 1000)) := rfl
theorem LY_X8_terrace33_141 : (LY_X8_terrace33)[141]? = some (.inl (1, 32)) := rfl
theorem LY_X8_terrace33_142 : (LY_X8_terrace33)[142]? = some (.inr (7, [(2, 143), (2, 144), (2, 145), (0, 0)])) := rfl
theorem LY_X8_terrace33_143 : (LY_X8_terrace33)[143]? = some (.inl (0, 40)) := rfl
theorem LY_X8_terrace33_144 : (LY_X8_terrace33)[144]? = some (.inl (0, 40)) := rfl
theorem LY_X8_terrace33_145 : (LY_X8_terrace33)[145]? = some (.inl (1, 40)) := rfl
theorem LY_X8_terrace33_146 : (LY_X8_terrace33)[146]? = some (.inr (7, [(2, 147), (2, 148), (2, 149), (0, 0)])) := rfl
theorem LY_X8_terrace33_147 : (LY_X8_terrace33)[147]? = some (.inl (0, 40)) := rfl
theorem LY_X8_terrace33_148 : (LY_X8_terrace33)[148]? = some (.inl (0, 40)) := rfl
theorem LY_X8_terrace33_149 : (LY_X8_terrace33)[149]? = some (.inl (1, 40)) := rfl
def LY_X8_winter32 : List Shp := [.inr (8, [(2, 1), (2, 4), (2, 7), (2, 10), (2, 13), (2, 18), (2, 63), (2, 112), (2, 127), (2, 146), (2, 146), (0, 0), (0, 0), (1, 0)]), .inr (5, [(2, 2), (2, 3), (0, 0), (0, 0), (0, 0), (1, 0), (0, 0), (0, 0), (0, 0), (0, 0)]), .inl (0, 1000), .inl (2, 26), .inr (4, [(2, 5), (2, 6), (0, 0), (0, 0), (0, 0)]), .inl (1, 5), .inl (1, 5), .inr (4, [(2, 8), (2, 9), (0, 0), (0, 0), (0, 0)]), .inl (1, 5), .inl (1, 5), .inr (0, [(2, 11), (2, 12), (0, 0), (0, 0), (0, 0)]), .inl (1, 8), .inl (3, 8), .inr (2, [(2, 14), (2, 15), (2, 16), (0, 0), (0, 0), (0, 0), (2, 17), (0, 0)]), .inl (1, 5), .inl (1, 6), .inl (1, 10), .inl (1, 5), .inl (4, 4), .inr (3, [(2, 20), (2, 23), (2, 27), (0, 0)]), .inr (4, [(2, 21), (2, 22), (0, 0), (0, 0), (0, 0)]), .inl (1, 5), .inl (1, 5), .inr (7, [(2, 24), (2, 25), (2, 26), (0, 0)]), .inl (0, 40), .inl (0, 40), .inl (1, 40), .inr (0, [(2, 28), (2, 29), (0, 0), (0, 0), (0, 0)]), .inl (1, 8), .inl (3, 8), .inr (3, [(2, 31), (2, 34), (2, 38), (0, 0)]), .inr (4, [(2, 32), (2, 33), (0, 0), (0, 0), (0, 0)]), .inl (1, 5), .inl (1, 5), .inr (7, [(2, 35), (2, 36), (2, 37), (0, 0)]), .inl (0, 40), .inl (0, 40), .inl (1, 40), .inr (0, [(2, 39), (2, 40), (0, 0), (0, 0), (0, 0)]), .inl (1, 8), .inl (3, 8), .inr (3, [(2, 42), (2, 45), (2, 49), (0, 0)]), .inr (4, [(2, 43), (2, 44), (0, 0), (0, 0), (0, 0)]), .inl (1, 5), .inl (1, 5), .inr (7, [(2, 46), (2, 47), (2, 48), (0, 0)]), .inl (0, 40), .inl (0, 40), .inl (1, 40), .inr (0, [(2, 50), (2, 51), (0, 0), (0, 0), (0, 0)]), .inl (1, 8), .inl (3, 8), .inr (3, [(2, 53), (2, 56), (2, 60), (0, 0)]), .inr (4, [(2, 54), (2, 55), (0, 0), (0, 0), (0, 0)]), .inl (1, 5), .inl (1, 5), .inr (7, [(2, 57), (2, 58), (2, 59), (0, 0)]), .inl (0, 40), .inl (0, 40), .inl (1, 40), .inr (0, [(2, 61), (2, 62), (0, 0), (0, 0), (0, 0)]), .inl (1, 8), .inl (3, 8), .inl (5, 16), .inr (4, [(2, 65), (2, 66), (0, 0), (0, 0), (0, 0)]), .inl (1, 5), .inl (1, 5), .inr (4, [(2, 68), (2, 69), (0, 0), (0, 0), (0, 0)]), .inl (1, 5), .inl (1, 5), .inr (4, [(2, 71), (2, 72), (0, 0), (0, 0), (0, 0)]), .inl (1, 5), .inl (1, 5), .inr (4, [(2, 74), (2, 75), (0, 0), (0, 0), (0, 0)]), .inl (1, 5), .inl (1, 5), .inr (4, [(2, 77), (2, 78), (0, 0), (0, 0), (0, 0)]), .inl (1, 5), .inl (1, 5), .inr (4, [(2, 80), (2, 81), (0, 0), (0, 0), (0, 0)]), .inl (1, 5), .inl (1, 5), .inr (4, [(2, 83), (2, 84), (0, 0), (0, 0), (0, 0)]), .inl (1, 5), .inl (1, 5), .inr (4, [(2, 86), (2, 87), (0, 0), (0, 0), (0, 0)]), .inl (1, 5), .inl (1, 5), .inr (4, [(2, 89), (2, 90), (0, 0), (0, 0), (0, 0)]), .inl (1, 5), .inl (1, 5), .inr (4, [(2, 92), (2, 93), (0, 0), (0, 0), (0, 0)]), .inl (1, 5), .inl (1, 5), .inr (4, [(2, 95), (2, 96), (0, 0), (0, 0), (0, 0)]), .inl (1, 5), .inl (1, 5), .inr (4, [(2, 98), (2, 99), (0, 0), (0, 0), (0, 0)]), .inl (1, 5), .inl (1, 5), .inr (4, [(2, 101), (2, 102), (0, 0), (0, 0), (0, 0)]), .inl (1, 5), .inl (1, 5), .inr (4, [(2, 104), (2, 105), (0, 0), (0, 0), (0, 0)]), .inl (1, 5), .inl (1, 5), .inr (4, [(2, 107), (2, 108), (0, 0), (0, 0), (0, 0)]), .inl (1, 5), .inl (1, 5), .inr (4, [(2, 110), (2, 111), (0, 0), (0, 0), (0, 0)]), .inl (1, 5), .inl (1, 5), .inr (6, [(2, 113), (2, 114), (2, 115), (2, 116), (0, 0), (2, 117), (2, 118), (2, 119), (2, 120), (2, 121), (2, 122), (2, 123), (2, 124), (0, 0), (0, 0), (0, 0), (0, 0), (0, 0)]), .inl (2, 5), .inl (2, 5), .inl (1, 10), .inl (1, 12), .inl (1, 5), .inl (1, 5), .inl (1, 5), .inl (1, 5), .inl (1, 5), .inl (1, 5), .inl (1, 5), .inr (1, [(2, 125), (2, 126), (0, 0), (0, 0), (0, 0)]), .inl (1, 1000), .inl (1, 32), .inr (6, [(2, 128), (2, 129), (2, 130), (2, 131), (0, 0), (2, 132), (2, 133), (2, 134), (2, 135), (2, 136), (2, 137), (2, 138), (2, 139), (0, 0), (0, 0), (0, 0), (0, 0), (0, 0)]), .inl (2, 5), .inl (2, 5), .inl (1, 10), .inl (1, 12), .inl (1, 5), .inl (1, 5), .inl (1, 5), .inl (1, 5), .inl (1, 5), .inl (1, 5), .inl (1, 5), .inr (1, [(2, 140), (2, 141), (0, 0), (0, 0), (0, 0)]), .inl (1, 1000), .inl (1, 32), .inr (7, [(2, 143), (2, 144), (2, 145), (0, 0)]), .inl (0, 40), .inl (0, 40), .inl (1, 40), .inr (7, [(2, 147), (2, 148), (2, 149), (0, 0)]), .inl (0, 40), .inl (0, 40), .inl (1, 40)]
theorem LY_X8_winter32_0 : (LY_X8_winter32)[0]? = some (.inr (8, [(2, 1), (2, 4), (2, 7), (2, 10), (2, 13), (2, 18), (2, 63), (2, 112), (2, 127), (2, 146), (2, 146), (0, 0), (0, 0), (1, 0)])) := rfl
theorem LY_X8_winter32_1 : (LY_X8_winter32)[1]? = some (.inr (5, [(2, 2), (2, 3), (0, 0), (0, 0), (0, 0), (1, 0), (0, 0), (0, 0), (0, 0), (0, 0)])) := rfl
theorem LY_X8_winter32_2 : (LY_X8_winter32)[2]? = some (.inl (0, 1000)) := rfl
theorem LY_X8_winter32_3 : (LY_X8_winter32)[3]? = some (.inl (2, 26)) := rfl
theorem LY_X8_winter32_4 : (LY_X8_winter32)[4]? = some (.inr (4, [(2, 5), (2, 6), (0, 0), (0, 0), (0, 0)])) := rfl
theorem LY_X8_winter32_5 : (LY_X8_winter32)[5]? = some (.inl (1, 5)) := rfl
theorem LY_X8_winter32_6 : (LY_X8_winter32)[6]? = some (.inl (1, 5)) := rfl
theorem LY_X8_winter32_7 : (LY_X8_winter32)[7]? = some (.inr (4, [(2, 8), (2, 9), (0, 0), (0, 0), (0, 0)])) := rfl
theorem LY_X8_winter32_8 : (LY_X8_winter32)[8]? = some (.inl (1, 5)) := rfl
theorem LY_X8_winter32_9 : (LY_X8_winter32)[9]? = some (.inl (1, 5)) := rfl
theorem LY_X8_winter32_10 : (LY_X8_winter32)[10]? = some (.inr (0, [(2, 11), (2, 12), (0, 0), (0, 0), (0, 0)])) := rfl
theorem LY_X8_winter32_11 : (LY_X8_winter32)[11]? = some (.inl (1, 8)) := rfl
theorem LY_X8_winter32_12 : (LY_X8_winter32)[12]? = some (.inl (3, 8)) := rfl
theorem LY_X8_winter32_13 : (LY_X8_winter32)[13]? = some (.inr (2, [(2, 14), (2, 15), (2, 16), (0, 0), (0, 0), (0, 0), (2, 17), (0, 0)])) := rfl
theorem LY_X8_winter32_14 : (LY_X8_winter32)[14]? = some (.inl (1, 5)) := rfl
theorem LY_X8_winter32_15 : (LY_X8_winter32)[15]? = some (.inl (1, 6)) := rfl
theorem LY_X8_winter32_16 : (LY_X8_winter32)[16]? = some (.inl (1, 10)) := rfl
theorem LY_X8_winter32_17 : (LY_X8_winter32)[17]? = some (.inl (1, 5)) := rfl
theorem LY_X8_winter32_18 : (LY_X8_winter32)[18]? = some (.inl (4, 4)) := rfl
theorem LY_X8_winter32_19 : (LY_X8_winter32)[19]? = some (.inr (3, [(2, 20), (2, 23), (2, 27), (0, 0)])) := rfl
theorem LY_X8_winter32_20 : (LY_X8_winter32)[20]? = some (.inr (4, [(2, 21), (2, 22), (0, 0), (0, 0), (0, 0)])) := rfl
theorem LY_X8_winter32_21 : (LY_X8_winter32)[21]? = some (.inl (1, 5)) := rfl
theorem LY_X8_winter32_22 : (LY_X8_winter32)[22]? = some (.inl (1, 5)) := rfl
theorem LY_X8_winter32_23 : (LY_X8_winter32)[23]? = some (.inr (7, [(2, 24), (2, 25), (2, 26), (0, 0)])) := rfl
theorem LY_X8_winter32_24 : (LY_X8_winter32)[24]? = some (.inl (0, 40)) := rfl
theorem LY_X8_winter32_25 : (LY_X8_winter32)[25]? = some (.inl (0, 40)) := rfl
theorem LY_X8_winter32_26 : (LY_X8_winter32)[26]? = some (.inl (1, 40)) := rfl
theorem LY_X8_winter32_27 : (LY_X8_winter32)[27]? = some (.inr (0, [(2, 28), (2, 29), (0, 0), (0, 0), (0, 0)])) := rfl
theorem LY_X8_winter32_28 : (LY_X8_winter32)[28]? = some (.inl (1, 8)) := rfl
theorem LY_X8_winter32_29 : (LY_X8_winter32)[29]? = some (.inl (3, 8)) := rfl
theorem LY_X8_winter32_30 : (LY_X8_winter32)[30]? = some (.inr (3, [(2, 31), (2, 34), (2, 38), (0, 0)])) := rfl
theorem LY_X8_winter32_31 : (LY_X8_winter32)[31]? = some (.inr (4, [(2, 32), (2, 33), (0, 0), (0, 0), (0, 0)])) := rfl
theorem LY_X8_winter32_32 : (LY_X8_winter32)[32]? = some (.inl (1, 5)) := rfl
theorem LY_X8_winter32_33 : (LY_X8_winter32)[33]? = some (.inl (1, 5)) := rfl
theorem LY_X8_winter32_34 : (LY_X8_winter32)[34]? = some (.inr (7, [(2, 35), (2, 36), (2, 37), (0, 0)])) := rfl
theorem LY_X8_winter32_35 : (LY_X8_winter32)[35]? = some (.inl (0, 40)) := rfl
theorem LY_X8_winter32_36 : (LY_X8_winter32)[36]? = some (.inl (0, 40)) := rfl
theorem LY_X8_winter32_37 : (LY_X8_winter32)[37]? = some (.inl (1, 40)) := rfl
theorem LY_X8_winter32_38 : (LY_X8_winter32)[38]? = some (.inr (0, [(2, 39), (2, 40), (0, 0), (0, 0), (0, 0)])) := rfl
theorem LY_X8_winter32_39 : (LY_X8_winter32)[39]? = some (.inl (1, 8)) := rfl
theorem LY_X8_winter32_40 : (LY_X8_winter32)[40]? = some (.inl (3, 8)) := rfl
theorem LY_X8_winter32_41 : (LY_X8_winter32)[41]? = some (.inr (3, [(2, 42), (2, 45), (2, 49), (0, 0)])) := rfl
theorem LY_X8_winter32_42 : (LY_X8_winter32)[42]? = some (.inr (4, [(2, 43), (2, 44), (0, 0), (0, 0), (0, 0)])) := rfl
theorem LY_X8_winter32_43 : (LY_X8_winter32)[43]? = some (.inl (1, 5)) := rfl
theorem LY_X8_winter32_44 : (LY_X8_winter32)[44]? = some (.inl (1, 5)) := rfl
theorem LY_X8_winter32_45 : (LY_X8_winter32)[45]? = some (.inr (7, [(2, 46), (2, 47), (2, 48), (0, 0)])) := rfl
theorem LY_X8_winter32_46 : (LY_X8_winter32)[46]? = some (.inl (0, 40)) := rfl
theorem LY_X8_winter32_47 : (LY_X8_winter32)[47]? = some (.inl (0, 40)) := rfl
theorem LY_X8_winter32_48 : (LY_X8_winter32)[48]? = some (.inl (1, 40)) := rfl
theorem LY_X8_winter32_49 : (LY_X8_winter32)[49]? = some (.inr (0, [(2, 50), (2, 51), (0, 0), (0, 0), (0, 0)])) := rfl
theorem LY_X8_winter32_50 : (LY_X8_winter32)[50]? = some (.inl (1, 8)) := rfl
theorem LY_X8_winter32_51 : (LY_X8_winter32)[51]? = some (.inl (3, 8)) := rfl
theorem LY_X8_winter32_52 : (LY_X8_winter32)[52]? = some (.inr (3, [(2, 53), (2, 56), (2, 60), (0, 0)])) := rfl
theorem LY_X8_winter32_53 : (LY_X8_winter32)[53]? = some (.inr (4, [(2, 54), (2, 55), (0, 0), (0, 0), (0, 0)])) := rfl
theorem LY_X8_winter32_54 : (LY_X8_winter32)[54]? = some (.inl (1, 5)) := rfl
theorem LY_X8_winter32_55 : (LY_X8_winter32)[55]? = some (.inl (1, 5)) := rfl
theorem LY_X8_winter32_56 : (LY_X8_winter32)[56]? = some (.inr (7, [(2, 57), (2, 58), (2, 59), (0, 0)])) := rfl
theorem LY_X8_winter32_57 : (LY_X8_winter32)[57]? = some (.inl (0, 40)) := rfl
theorem LY_X8_winter32_58 : (LY_X8_winter32)[58]? = some (.inl (0, 40)) := rfl
theorem LY_X8_winter32_59 : (LY_X8_winter32)[59]? = some (.inl (1, 40)) := rfl
theorem LY_X8_winter32_60 : (LY_X8_winter32)[60]? = some (.inr (0, [(2, 61), (2, 62), (0, 0), (0, 0), (0, 0)])) := rfl
theorem LY_X8_winter32_61 : (LY_X8_winter32)[61]? = some (.inl (1, 8)) := rfl
theorem LY_X8_winter32_62 : (LY_X8_winter32)[62]? = some (.inl (3, 8)) := rfl
theorem LY_X8_winter32_63 : (LY_X8_winter32)[63]? = some (.inl (5, 16)) := rfl
theorem LY_X8_winter32_64 : (LY_X8_winter32)[64]? = some (.inr (4, [(2, 65), (2, 66), (0, 0), (0, 0), (0, 0)])) := rfl
theorem LY_X8_winter32_65 : (LY_X8_winter32)[65]? = some (.inl (1, 5)) := rfl
theorem LY_X8_winter32_66 : (LY_X8_winter32)[66]? = some (.inl (1, 5)) := rfl
theorem LY_X8_winter32_67 : (LY_X8_winter32)[67]? = some (.inr (4, [(2, 68), (2, 69), (0, 0), (0, 0), (0, 0)])) := rfl
theorem LY_X8_winter32_68 : (LY_X8_winter32)[68]? = some (.inl (1, 5)) := rfl
theorem LY_X8_winter32_69 : (LY_X8_winter32)[69]? = some (.inl (1, 5)) := rfl
theorem LY_X8_winter32_70 : (LY_X8_winter32)[70]? = some (.inr (4, [(2, 71), (2, 72), (0, 0), (0, 0), (0, 0)])) := rfl
theorem LY_X8_winter32_71 : (LY_X8_winter32)[71]? = some (.inl (1, 5)) := rfl
theorem LY_X8_winter32_72 : (LY_X8_winter32)[72]? = some (.inl (1, 5)) := rfl
theorem LY_X8_winter32_73 : (LY_X8_winter32)[73]? = some (.inr (4, [(2, 74), (2, 75), (0, 0), (0, 0), (0, 0)])) := rfl
theorem LY_X8_winter32_74 : (LY_X8_winter32)[74]? = some (.inl (1, 5)) := rfl
theorem LY_X8_winter32_75 : (LY_X8_winter32)[75]? = some (.inl (1, 5)) := rfl
theorem LY_X8_winter32_76 : (LY_X8_winter32)[76]? = some (.inr (4, [(2, 77), (2, 78), (0, 0), (0, 0), (0, 0)])) := rfl
theorem LY_X8_winter32_77 : (LY_X8_winter32)[77]? = some (.inl (1, 5)) := rfl
theorem LY_X8_winter32_78 : (LY_X8_winter32)[78]? = some (.inl (1, 5)) := rfl
theorem LY_X8_winter32_79 : (LY_X8_winter32)[79]? = some (.inr (4, [(2, 80), (2, 81), (0, 0), (0, 0), (0, 0)])) := rfl
theorem LY_X8_winter32_80 : (LY_X8_winter32)[80]? = some (.inl (1, 5)) := rfl
theorem LY_X8_winter32_81 : (LY_X8_winter32)[81]? = some (.inl (1, 5)) := rfl
theorem LY_X8_winter32_82 : (LY_X8_winter32)[82]? = some (.inr (4, [(2, 83), (2, 84), (0, 0), (0, 0), (0, 0)])) := rfl
theorem LY_X8_winter32_83 : (LY_X8_winter32)[83]? = some (.inl (1, 5)) := rfl
theorem LY_X8_winter32_84 : (LY_X8_winter32)[84]? = some (.inl (1, 5)) := rfl
theorem LY_X8_winter32_85 : (LY_X8_winter32)[85]? = some (.inr (4, [(2, 86), (2, 87), (0, 0), (0, 0), (0, 0)])) := rfl
theorem LY_X8_winter32_86 : (LY_X8_winter32)[86]? = some (.inl (1, 5)) := rfl
theorem LY_X8_winter32_87 : (LY_X8_winter32)[87]? = some (.inl (1, 5)) := rfl
theorem LY_X8_winter32_88 : (LY_X8_winter32)[88]? = some (.inr (4, [(2, 89), (2, 90), (0, 0), (0, 0), (0, 0)])) := rfl
theorem LY_X8_winter32_89 : (LY_X8_winter32)[89]? = some (.inl (1, 5)) := rfl
theorem LY_X8_winter32_90 : (LY_X8_winter32)[90]? = some (.inl (1, 5)) := rfl
theorem LY_X8_winter32_91 : (LY_X8_winter32)[91]? = some (.inr (4, [(2, 92), (2, 93), (0, 0), (0, 0), (0, 0)])) := rfl
theorem LY_X8_winter32_92 : (LY_X8_winter32)[92]? = some (.inl (1, 5)) := rfl
theorem LY_X8_winter32_93 : (LY_X8_winter32)[93]? = some (.inl (1, 5)) := rfl
theorem LY_X8_winter32_94 : (LY_X8_winter32)[94]? = some (.inr (4, [(2, 95), (2, 96), (0, 0), (0, 0), (0, 0)])) := rfl
theorem LY_X8_winter32_95 : (LY_X8_winter32)[95]? = some (.inl (1, 5)) := rfl
theorem LY_X8_winter32_96 : (LY_X8_winter32)[96]? = some (.inl (1, 5)) := rfl
theorem LY_X8_winter32_97 : (LY_X8_winter32)[97]? = some (.inr (4, [(2, 98), (2, 99), (0, 0), (0, 0), (0, 0)])) := rfl
theorem LY_X8_winter32_98 : (LY_X8_winter32)[98]? = some (.inl (1, 5)) := rfl
theorem LY_X8_winter32_99 : (LY_X8_winter32)[99]? = some (.inl (1, 5)) := rfl
theorem LY_X8_winter32_100 : (LY_X8_winter32)[100]? = some (.inr (4, [(2, 101), (2, 102), (0, 0), (0, 0), (0, 0)])) := rfl
theorem LY_X8_winter32_101 : (LY_X8_winter32)[101]? = some (.inl (1, 5)) := rfl
theorem LY_X8_winter32_102 : (LY_X8_winter32)[102]? = some (.inl (1, 5)) := rfl
theorem LY_X8_winter32_103 : (LY_X8_winter32)[103]? = some (.inr (4, [(2, 104), (2, 105), (0, 0), (0, 0), (0, 0)])) := rfl
theorem LY_X8_winter32_104 : (LY_X8_winter32)[104]? = some (.inl (1, 5)) := rfl
theorem LY_X8_winter32_105 : (LY_X8_winter32)[105]? = some (.inl (1, 5)) := rfl
theorem LY_X8_winter32_106 : (LY_X8_winter32)[106]? = some (.inr (4, [(2, 107), (2, 108), (0, 0), (0, 0), (0, 0)])) := rfl
theorem LY_X8_winter32_107 : (LY_X8_winter32)[107]? = some (.inl (1, 5)) := rfl
theorem LY_X8_winter32_108 : (LY_X8_winter32)[108]? = some (.inl (1, 5)) := rfl
theorem LY_X8_winter32_109 : (LY_X8_winter32)[109]? = some (.inr (4, [(2, 110), (2, 111), (0, 0), (0, 0), (0, 0)])) := rfl
theorem LY_X8_winter32_110 : (LY_X8_winter32)[110]? = some (.inl (1, 5)) := rfl
theorem LY_X8_winter32_111 : (LY_X8_winter32)[111]? = some (.inl (1, 5)) := rfl
theorem LY_X8_winter32_112 : (LY_X8_winter32)[112]? = some (.inr (6, [(2, 113), (2, 114), (2, 115), (2, 116), (0, 0), (2, 117), (2, 118), (2, 119), (2, 120), (2, 121), (2, 122), (2, 123), (2, 124), (0, 0), (0, 0), (0, 0), (0, 0), (0, 0)])) := rfl
theorem LY_X8_winter32_113 : (LY_X8_winter32)[113]? = some (.inl (2, 5)) := rfl
theorem LY_X8_winter32_114 : (LY_X8_winter32)[114]? = some (.inl (2, 5)) := rfl
theorem LY_X8_winter32_115 : (LY_X8_winter32)[115]? = some (.inl (1, 10)) := rfl
theorem LY_X8_winter32_116 : (LY_X8_winter32)[116]? = some (.inl (1, 12)) := rfl
theorem LY_X8_winter32_117 : (LY_X8_winter32)[117]? = some (.inl (1, 5)) := rfl
theorem LY_X8_winter32_118 : (LY_X8_winter32)[118]? = some (.inl (1, 5)) := rfl
theorem LY_X8_winter32_119 : (LY_X8_winter32)[119]? = some (.inl (1, 5)) := rfl
theorem LY_X8_winter32_120 : (LY_X8_winter32)[120]? = some (.inl (1, 5)) := rfl
theorem LY_X8_winter32_121 : (LY_X8_winter32)[121]? = some (.inl (1, 5)) := rfl
theorem LY_X8_winter32_122 : (LY_X8_winter32)[122]? = some (.inl (1, 5)) := rfl
theorem LY_X8_winter32_123 : (LY_X8_winter32)[123]? = some (.inl (1, 5)) := rfl
theorem LY_X8_winter32_124 : (LY_X8_winter32)[124]? = some (.inr (1, [(2, 125), (2, 126), (0, 0), (0, 0), (0, 0)])) := rfl
theorem LY_X8_winter32_125 : (LY_X8_winter32)[125]? = some (.inl (1, 1000)) := rfl
theorem LY_X8_winter32_126 : (LY_X8_winter32)[126]? = some (.inl (1, 32)) := rfl
theorem LY_X8_winter32_127 : (LY_X8_winter32)[127]? = some (.inr (6, [(2, 128), (2, 129), (2, 130), (2, 131), (0, 0), (2, 132), (2, 133), (2, 134), (2, 135), (2, 136), (2, 137), (2, 138), (2, 139), (0, 0), (0, 0), (0, 0), (0, 0), (0, 0)])) := rfl
theorem LY_X8_winter32_128 : (LY_X8_winter32)[128]? = some (.inl (2, 5)) := rfl
theorem LY_X8_winter32_129 : (LY_X8_winter32)[129]? = some (.inl (2, 5)) := rfl
theorem LY_X8_winter32_130 : (LY_X8_winter32)[130]? = some (.inl (1, 10)) := rfl
theorem LY_X8_winter32_131 : (LY_X8_winter32)[131]? = some (.inl (1, 12)) := rfl
theorem LY_X8_winter32_132 : (LY_X8_winter32)[132]? = some (.inl (1, 5)) := rfl
theorem LY_X8_winter32_133 : (LY_X8_winter32)[133]? = some (.inl (1, 5)) := rfl
theorem LY_X8_winter32_134 : (LY_X8_winter32)[134]? = some (.inl (1, 5)) := rfl
theorem LY_X8_winter32_135 : (LY_X8_winter32)[135]? = some (.inl (1, 5)) := rfl
theorem LY_X8_winter32_136 : (LY_X8_winter32)[136]? = some (.inl (1, 5)) := rfl
theorem LY_X8_winter32_137 : (LY_X8_winter32)[137]? = some (.inl (1, 5)) := rfl
theorem LY_X8_winter32_138 : (LY_X8_winter32)[138]? = some (.inl (1, 5)) := rfl
theorem LY_X8_winter32_139 : (LY_X8_winter32)[139]? = some (.inr (1, [(2, 140), (2, 141), (0, 0), (0, 0), (0, 0)])) := rfl
theorem LY_X8_winter32_140 : (LY_X8_winter32)[140]? = some (.inl (1, 1000)) := rfl
theorem LY_X8_winter32_141 : (LY_X8_winter32)[141]? = some (.inl (1, 32)) := rfl
theorem LY_X8_winter32_142 : (LY_X8_winter32)[142]? = some (.inr (7, [(2, 143), (2, 144), (2, 145), (0, 0)])) := rfl
theorem LY_X8_winter32_143 : (LY_X8_winter32)[143]? = some (.inl (0, 40)) := rfl
theorem LY_X8_winter32_144 : (LY_X8_winter32)[144]? = some (.inl (0, 40)) := rfl
theorem LY_X8_winter32_145 : (LY_X8_winter32)[145]? = some (.inl (1, 40)) := rfl
theorem LY_X8_winter32_146 : (LY_X8_winter32)[146]? = some (.inr (7, [(2, 147), (2, 148), (2, 149), (0, 0)])) := rfl
theorem LY_X8_winter32_147 : (LY_X8_winter32)[147]? = some (.inl (0, 40)) := rfl
theorem LY_X8_winter32_148 : (LY_X8_winter32)[148]? = some (.inl (0, 40)) := rfl
theorem LY_X8_winter32_149 : (LY_X8_winter32)[149]? = some (.inl (1, 40)) := rfl
def LY_X8_winter37 : List Shp := [.inr (8, [(2, 1), (2, 4), (2, 7), (2, 10), (2, 13), (2, 18), (2, 63), (2, 112), (2, 127), (2, 146), (2, 142), (0, 0), (0, 0), (1, 0)]), .inr (5, [(2, 2), (2, 3), (0, 0), (0, 0), (0, 0), (1, 0), (0, 0), (0, 0), (0, 0), (0, 0)]), .inl (0, 1000), .inl (2, 26), .inr (4, [(2, 5), (2, 6), (0, 0), (0, 0), (0, 0)]), .inl (1, 5), .inl (1, 5), .inr (4, [(2, 8), (2, 9), (0, 0), (0, 0), (0, 0)]), .inl (1, 5), .inl (1, 5), .inr (0, [(2, 11), (2, 12), (0, 0), (0, 0), (0, 0)]), .inl (1, 8), .inl (3, 8), .inr (2, [(2, 14), (2, 15), (2, 16), (0, 0), (0, 0), (0, 0), (2, 17), (0, 0)]), .inl (1, 5), .inl (1, 6), .inl (1, 10), .inl (1, 5), .inl (4, 4), .inr (3, [(2, 20), (2, 23), (2, 27), (0, 0)]), .inr (4, [(2, 21), (2, 22), (0, 0), (0, 0), (0, 0)]), .inl (1, 5), .inl (1, 5), .inr (7, [(2, 24), (2, 25), (2, 26), (0, 0)]), .inl (0, 40), .inl (0, 40), .inl (1, 40), .inr (0, [(2, 28), (2, 29), (0, 0), (0, 0), (0, 0)]), .inl (1, 8), .inl (3, 8), .inr (3, [(2, 31), (2, 34), (2, 38), (0, 0)]), .inr (4, [(2, 32), (2, 33), (0, 0), (0, 0), (0, 0)]), .inl (1, 5), .inl (1, 5), .inr (7, [(2, 35), (2, 36), (2, 37), (0, 0)]), .inl (0, 40), .inl (0, 40), .inl (1, 40), .inr (0, [(2, 39), (2, 40), (0, 0), (0, 0), (0, 0)]), .inl (1, 8), .inl (3, 8), .inr (3, [(2, 42), (2, 45), (2, 49), (0, 0)]), .inr (4, [(2, 43), (2, 44), (0, 0), (0, 0), (0, 0)]), .inl (1, 5), .inl (1, 5), .inr (7, [(2, 46), (2, 47), (2, 48), (0, 0)]), .inl (0, 40), .inl (0, 40), .inl (1, 40), .inr (0, [(2, 50), (2, 51), (0, 0), (0, 0), (0, 0)]), .inl (1, 8), .inl (3, 8), .inr (3, [(2, 53), (2, 56), (2, 60), (0, 0)]), .inr (4, [(2, 54), (2, 55), (0, 0), (0, 0), (0, 0)]), .inl (1, 5), .inl (1, 5), .inr (7, [(2, 57), (2, 58), (2, 59), (0, 0)]), .inl (0, 40), .inl (0, 40), .inl (1, 40), .inr (0, [(2, 61), (2, 62), (0, 0), (0, 0), (0, 0)]), .inl (1, 8), .inl (3, 8), .inl (5, 16), .inr (4, [(2, 65), (2, 66), (0, 0), (0, 0), (0, 0)]), .inl (1, 5), .inl (1, 5), .inr (4, [(2, 68), (2, 69), (0, 0), (0, 0), (0, 0)]), .inl (1, 5), .inl (1, 5), .inr (4, [(2, 71), (2, 72), (0, 0), (0, 0), (0, 0)]), .inl (1, 5), .inl (1, 5), .inr (4, [(2, 74), (2, 75), (0, 0), (0, 0), (0, 0)]), .inl (1, 5), .inl (1, 5), .inr (4, [(2, 77), (2, 78), (0, 0), (0, 0), (0, 0)]), .inl (1, 5), .inl (1, 5), .inr (4, [(2, 80), (2, 81), (0, 0), (0, 0), (0, 0)]), .inl (1, 5), .inl (1, 5), .inr (4, [(2, 83), (2, 84), (0, 0), (0, 0), (0, 0)]), .inl (1, 5), .inl (1, 5), .inr (4, [(2, 86), (2, 87), (0, 0), (0, 0), (0, 0)]), .inl (1, 5), .inl (1, 5), .inr (4, [(2, 89), (2, 90), (0, 0), (0, 0), (0, 0)]), .inl (1, 5), .inl (1, 5), .inr (4, [(2, 92), (2, 93), (0, 0), (0, 0), (0, 0)]), .inl (1, 5), .inl (1, 5), .inr (4, [(2, 95), (2, 96), (0, 0), (0, 0), (0, 0)]), .inl (1, 5), .inl (1, 5), .inr (4, [(2, 98), (2, 99), (0, 0), (0, 0), (0, 0)]), .inl (1, 5), .inl (1, 5), .inr (4, [(2, 101), (2, 102), (0, 0), (0, 0), (0, 0)]), .inl (1, 5), .inl (1, 5), .inr (4, [(2, 104), (2, 105), (0, 0), (0, 0), (0, 0)]), .inl (1, 5), .inl (1, 5), .inr (4, [(2, 107), (2, 108), (0, 0), (0, 0), (0, 0)]), .inl (1, 5), .inl (1, 5), .inr (4, [(2, 110), (2, 111), (0, 0), (0, 0), (0, 0)]), .inl (1, 5), .inl (1, 5), .inr (6, [(2, 113), (2, 114), (2, 115), (2, 116), (0, 0), (2, 117), (2, 118), (2, 119), (2, 120), (2, 121), (2, 122), (2, 123), (2, 124), (0, 0), (0, 0), (0, 0), (0, 0), (0, 0)]), .inl (2, 5), .inl (2, 5), .inl (1, 10), .inl (1, 12), .inl (1, 5), .inl (1, 5), .inl (1, 5), .inl (1, 5), .inl (1, 5), .inl (1, 5), .inl (1, 5), .inr (1, [(2, 125), (2, 126), (0, 0), (0, 0), (0, 0)]), .inl (1, 1000), .inl (1, 32), .inr (6, [(2, 128), (2, 129), (2, 130), (2, 131), (0, 0), (2, 132), (2, 133), (2, 134), (2, 135), (2, 136), (2, 137), (2, 138), (2, 139), (0, 0), (0, 0), (0, 0), (0, 0), (0, 0)]), .inl (2, 5), .inl (2, 5), .inl (1, 10), .inl (1, 12), .inl (1, 5), .inl (1, 5), .inl (1, 5), .inl (1, 5), .inl (1, 5), .inl (1, 5), .inl (1, 5), .inr (1, [(2, 140), (2, 141), (0, 0), (0, 0), (0, 0)]), .inl (1, 1000), .inl (1, 32), .inr (7, [(2, 143), (2, 144), (2, 145), (0, 0)]), .inl (0, 40), .inl (0, 40), .inl (1, 40), .inr (7, [(2, 147), (2, 148), (2, 149), (0, 0)]), .inl (0, 40), .inl (0, 40), .inl (1, 40)]
theorem LY_X8_winter37_0 : (LY_X8_winter37)[0]? = some (.inr (8, [(2, 1), (2, 4), (2, 7), (2, 10), (2, 13), (2, 18), (2, 63), (2, 112), (2, 127), (2, 146), (2, 142), (0, 0), (0, 0), (1, 0)])) := rfl
theorem LY_X8_winter37_1 : (LY_X8_winter37)[1]? = some (.inr (5, [(2, 2), (2, 3), (0, 0), (0, 0), (0, 0), (1, 0), (0, 0), (0, 0), (0, 0), (0, 0)])) := rfl
theorem LY_X8_winter37_2 : (LY_X8_winter37)[2]? = some (.inl (0, 1000)) := rfl
theorem LY_X8_winter37_3 : (LY_X8_winter37)[3]? = some (.inl (2, 26)) := rfl
theorem LY_X8_winter37_4 : (LY_X8_winter37)[4]? = some (.inr (4, [(2, 5), (2, 6), (0, 0), (0, 0), (0, 0)])) := rfl
theorem LY_X8_winter37_5 : (LY_X8_winter37)[5]? = some (.inl (1, 5)) := rfl
theorem LY_X8_winter37_6 : (LY_X8_winter37)[6]? = some (.inl (1, 5)) := rfl
theorem LY_X8_winter37_7 : (LY_X8_winter37)[7]? = some (.inr (4, [(2, 8), (2, 9), (0, 0), (0, 0), (0, 0)])) := rfl
theorem LY_X8_winter37_8 : (LY_X8_winter37)[8]? = some (.inl (1, 5)) := rfl
theorem LY_X8_winter37_9 : (LY_X8_winter37)[9]? = some (.inl (1, 5)) := rfl
theorem LY_X8_winter37_10 : (LY_X8_winter37)[10]? = some (.inr (0, [(2, 11), (2, 12), (0, 0), (0, 0), (0, 0)])) := rfl
theorem LY_X8_winter37_11 : (LY_X8_winter37)[11]? = some (.inl (1, 8)) := rfl
theorem LY_X8_winter37_12 : (LY_X8_winter37)[12]? = some (.inl (3, 8)) := rfl
theorem LY_X8_winter37_13 : (LY_X8_winter37)[13]? = some (.inr (2, [(2, 14), (2, 15), (2, 16), (0, 0), (0, 0), (0, 0), (2, 17), (0, 0)])) := rfl
theorem LY_X8_winter37_14 : (LY_X8_winter37)[14]? = some (.inl (1, 5)) := rfl
theorem LY_X8_winter37_15 : (LY_X8_winter37)[15]? = some (.inl (1, 6)) := rfl
theorem LY_X8_winter37_16 : (LY_X8_winter37)[16]? = some (.inl (1, 10)) := rfl
theorem LY_X8_winter37_17 : (LY_X8_winter37)[17]? = some (.inl (1, 5)) := rfl
theorem LY_X8_winter37_18 : (LY_X8_winter37)[18]? = some (.inl (4, 4)) := rfl
theorem LY_X8_winter37_19 : (LY_X8_winter37)[19]? = some (.inr (3, [(2, 20), (2, 23), (2, 27), (0, 0)])) := rfl
theorem LY_X8_winter37_20 : (LY_X8_winter37)[20]? = some (.inr (4, [(2, 21), (2, 22), (0, 0), (0, 0), (0, 0)])) := rfl
theorem LY_X8_winter37_21 : (LY_X8_winter37)[21]? = some (.inl (1, 5)) := rfl
theorem LY_X8_winter37_22 : (LY_X8_winter37)[22]? = some (.inl (1, 5)) := rfl
theorem LY_X8_winter37_23 : (LY_X8_winter37)[23]? = some (.inr (7, [(2, 24), (2, 25), (2, 26), (0, 0)])) := rfl
theorem LY_X8_winter37_24 : (LY_X8_winter37)[24]? = some (.inl (0, 40)) := rfl
theorem LY_X8_winter37_25 : (LY_X8_winter37)[25]? = some (.inl (0, 40)) := rfl
theorem LY_X8_winter37_26 : (LY_X8_winter37)[26]? = some (.inl (1, 40)) := rfl
theorem LY_X8_winter37_27 : (LY_X8_winter37)[27]? = some (.inr (0, [(2, 28), (2, 29), (0, 0), (0, 0), (0, 0)])) := rfl
theorem LY_X8_winter37_28 : (LY_X8_winter37)[28]? = some (.inl (1, 8)) := rfl
theorem LY_X8_winter37_29 : (LY_X8_winter37)[29]? = some (.inl (3, 8)) := rfl
theorem LY_X8_winter37_30 : (LY_X8_winter37)[30]? = some (.inr (3, [(2, 31), (2, 34), (2, 38), (0, 0)])) := rfl
theorem LY_X8_winter37_31 : (LY_X8_winter37)[31]? = some (.inr (4, [(2, 32), (2, 33), (0, 0), (0, 0), (0, 0)])) := rfl
theorem LY_X8_winter37_32 : (LY_X8_winter37)[32]? = some (.inl (1, 5)) := rfl
theorem LY_X8_winter37_33 : (LY_X8_winter37)[33]? = some (.inl (1, 5)) := rfl
theorem LY_X8_winter37_34 : (LY_X8_winter37)[34]? = some (.inr (7, [(2, 35), (2, 36), (2, 37), (0, 0)])) := rfl
theorem LY_X8_winter37_35 : (LY_X8_winter37)[35]? = some (.inl (0, 40)) := rfl
theorem LY_X8_winter37_36 : (LY_X8_winter37)[36]? = some (.inl (0, 40)) := rfl
theorem LY_X8_winter37_37 : (LY_X8_winter37)[37]? = some (.inl (1, 40)) := rfl
theorem LY_X8_winter37_38 : (LY_X8_winter37)[38]? = some (.inr (0, [(2, 39), (2, 40), (0, 0), (0, 0), (0, 0)])) := rfl
theorem LY_X8_winter37_39 : (LY_X8_winter37)[39]? = some (.inl (1, 8)) := rfl
theorem LY_X8_winter37_40 : (LY_X8_winter37)[40]? = some (.inl (3, 8)) := rfl
theorem LY_X8_winter37_41 : (LY_X8_winter37)[41]? = some (.inr (3, [(2, 42), (2, 45), (2, 49), (0, 0)])) := rfl
theorem LY_X8_winter37_42 : (LY_X8_winter37)[42]? = some (.inr (4, [(2, 43), (2, 44), (0, 0), (0, 0), (0, 0)])) := rfl
theorem LY_X8_winter37_43 : (LY_X8_winter37)[43]? = some (.inl (1, 5)) := rfl
theorem LY_X8_winter37_44 : (LY_X8_winter37)[44]? = some (.inl (1, 5)) := rfl
theorem LY_X8_winter37_45 : (LY_X8_winter37)[45]? = some (.inr (7, [(2, 46), (2, 47), (2, 48), (0, 0)])) := rfl
theorem LY_X8_winter37_46 : (LY_X8_winter37)[46]? = some (.inl (0, 40)) := rfl
theorem LY_X8_winter37_47 : (LY_X8_winter37)[47]? = some (.inl (0, 40)) := rfl
theorem LY_X8_winter37_48 : (LY_X8_winter37)[48]? = some (.inl (1, 40)) := rfl
theorem LY_X8_winter37_49 : (LY_X8_winter37)[49]? = some (.inr (0, [(2, 50), (2, 51), (0, 0), (0, 0), (0, 0)])) := rfl
theorem LY_X8_winter37_50 : (LY_X8_winter37)[50]? = some (.inl (1, 8)) := rfl
theorem LY_X8_winter37_51 : (LY_X8_winter37)[51]? = some (.inl (3, 8)) := rfl
theorem LY_X8_winter37_52 : (LY_X8_winter37)[52]? = some (.inr (3, [(2, 53), (2, 56), (2, 60), (0, 0)])) := rfl
theorem LY_X8_winter37_53 : (LY_X8_winter37)[53]? = some (.inr (4, [(2, 54), (2, 55), (0, 0), (0, 0), (0, 0)])) := rfl
theorem LY_X8_winter37_54 : (LY_X8_winter37)[54]? = some (.inl (1, 5)) := rfl
theorem LY_X8_winter37_55 : (LY_X8_winter37)[55]? = some (.inl (1, 5)) := rfl
theorem LY_X8_winter37_56 : (LY_X8_winter37)[56]? = some (.inr (7, [(2, 57), (2, 58), (2, 59), (0, 0)])) := rfl
theorem LY_X8_winter37_57 : (LY_X8_winter37)[57]? = some (.inl (0, 40)) := rfl
theorem LY_X8_winter37_58 : (LY_X8_winter37)[58]? = some (.inl (0, 40)) := rfl
theorem LY_X8_winter37_59 : (LY_X8_winter37)[59]? = some (.inl (1, 40)) := rfl
theorem LY_X8_winter37_60 : (LY_X8_winter37)[60]? = some (.inr (0, [(2, 61), (2, 62), (0, 0), (0, 0), (0, 0)])) := rfl
theorem LY_X8_winter37_61 : (LY_X8_winter37)[61]? = some (.inl (1, 8)) := rfl
theorem LY_X8_winter37_62 : (LY_X8_winter37)[62]? = some (.inl (3, 8)) := rfl
theorem LY_X8_winter37_63 : (LY_X8_winter37)[63]? = some (.inl (5, 16)) := rfl
theorem LY_X8_winter37_64 : (LY_X8_winter37)[64]? = some (.inr (4, [(2, 65), (2, 66), (0, 0), (0, 0), (0, 0)])) := rfl
theorem LY_X8_winter37_65 : (LY_X8_winter37)[65]? = some (.inl (1, 5)) := rfl
theorem LY_X8_winter37_66 : (LY_X8_winter37)[66]? = some (.inl (1, 5)) := rfl
theorem LY_X8_winter37_67 : (LY_X8_winter37)[67]? = some (.inr (4, [(2, 68), (2, 69), (0, 0), (0, 0), (0, 0)])) := rfl
theorem LY_X8_winter37_68 : (LY_X8_winter37)[68]? = some (.inl (1, 5)) := rfl
theorem LY_X8_winter37_69 : (LY_X8_winter37)[69]? = some (.inl (1, 5)) := rfl
theorem LY_X8_winter37_70 : (LY_X8_winter37)[70]? = some (.inr (4, [(2, 71), (2, 72), (0, 0), (0, 0), (0, 0)])) := rfl
theorem LY_X8_winter37_71 : (LY_X8_winter37)[71]? = some (.inl (1, 5)) := rfl
theorem LY_X8_winter37_72 : (LY_X8_winter37)[72]? = some (.inl (1, 5)) := rfl
theorem LY_X8_winter37_73 : (LY_X8_winter37)[73]? = some (.inr (4, [(2, 74), (2, 75), (0, 0), (0, 0), (0, 0)])) := rfl
theorem LY_X8_winter37_74 : (LY_X8_winter37)[74]? = some (.inl (1, 5)) := rfl
theorem LY_X8_winter37_75 : (LY_X8_winter37)[75]? = some (.inl (1, 5)) := rfl
theorem LY_X8_winter37_76 : (LY_X8_winter37)[76]? = some (.inr (4, [(2, 77), (2, 78), (0, 0), (0, 0), (0, 0)])) := rfl
theorem LY_X8_winter37_77 : (LY_X8_winter37)[77]? = some (.inl (1, 5)) := rfl
theorem LY_X8_winter37_78 : (LY_X8_winter37)[78]? = some (.inl (1, 5)) := rfl
theorem LY_X8_winter37_79 : (LY_X8_winter37)[79]? = some (.inr (4, [(2, 80), (2, 81), (0, 0), (0, 0), (0, 0)])) := rfl
theorem LY_X8_winter37_80 : (LY_X8_winter37)[80]? = some (.inl (1, 5)) := rfl
theorem LY_X8_winter37_81 : (LY_X8_winter37)[81]? = some (.inl (1, 5)) := rfl
theorem LY_X8_winter37_82 : (LY_X8_winter37)[82]? = some (.inr (4, [(2, 83), (2, 84), (0, 0), (0, 0), (0, 0)])) := rfl
theorem LY_X8_winter37_83 : (LY_X8_winter37)[83]? = some (.inl (1, 5)) := rfl
theorem LY_X8_winter37_84 : (LY_X8_winter37)[84]? = some (.inl (1, 5)) := rfl
theorem LY_X8_winter37_85 : (LY_X8_winter37)[85]? = some (.inr (4, [(2, 86), (2, 87), (0, 0), (0, 0), (0, 0)])) := rfl
theorem LY_X8_winter37_86 : (LY_X8_winter37)[86]? = some (.inl (1, 5)) := rfl
theorem LY_X8_winter37_87 : (LY_X8_winter37)[87]? = some (.inl (1, 5)) := rfl
theorem LY_X8_winter37_88 : (LY_X8_winter37)[88]? = some (.inr (4, [(2, 89), (2, 90), (0, 0), (0, 0), (0, 0)])) := rfl
theorem LY_X8_winter37_89 : (LY_X8_winter37)[89]? = some (.inl (1, 5)) := rfl
theorem LY_X8_winter37_90 : (LY_X8_winter37)[90]? = some (.inl (1, 5)) := rfl
theorem LY_X8_winter37_91 : (LY_X8_winter37)[91]? = some (.inr (4, [(2, 92), (2, 93), (0, 0), (0, 0), (0, 0)])) := rfl
theorem LY_X8_winter37_92 : (LY_X8_winter37)[92]? = some (.inl (1, 5)) := rfl
theorem LY_X8_winter37_93 : (LY_X8_winter37)[93]? = some (.inl (1, 5)) := rfl
theorem LY_X8_winter37_94 : (LY_X8_winter37)[94]? = some (.inr (4, [(2, 95), (2, 96), (0, 0), (0, 0), (0, 0)])) := rfl
theorem LY_X8_winter37_95 : (LY_X8_winter37)[95]? = some (.inl (1, 5)) := rfl
theorem LY_X8_winter37_96 : (LY_X8_winter37)[96]? = some (.inl (1, 5)) := rfl
theorem LY_X8_winter37_97 : (LY_X8_winter37)[97]? = some (.inr (4, [(2, 98), (2, 99), (0, 0), (0, 0), (0, 0)])) := rfl
theorem LY_X8_winter37_98 : (LY_X8_winter37)[98]? = some (.inl (1, 5)) := rfl
theorem LY_X8_winter37_99 : (LY_X8_winter37)[99]? = some (.inl (1, 5)) := rfl
theorem LY_X8_winter37_100 : (LY_X8_winter37)[100]? = some (.inr (4, [(2, 101), (2, 102), (0, 0), (0, 0), (0, 0)])) := rfl
theorem LY_X8_winter37_101 : (LY_X8_winter37)[101]? = some (.inl (1, 5)) := rfl
theorem LY_X8_winter37_102 : (LY_X8_winter37)[102]? = some (.inl (1, 5)) := rfl
theorem LY_X8_winter37_103 : (LY_X8_winter37)[103]? = some (.inr (4, [(2, 104), (2, 105), (0, 0), (0, 0), (0, 0)])) := rfl
theorem LY_X8_winter37_104 : (LY_X8_winter37)[104]? = some (.inl (1, 5)) := rfl
theorem LY_X8_winter37_105 : (LY_X8_winter37)[105]? = some (.inl (1, 5)) := rfl
theorem LY_X8_winter37_106 : (LY_X8_winter37)[106]? = some (.inr (4, [(2, 107), (2, 108), (0, 0), (0, 0), (0, 0)])) := rfl
theorem LY_X8_winter37_107 : (LY_X8_winter37)[107]? = some (.inl (1, 5)) := rfl
theorem LY_X8_winter37_108 : (LY_X8_winter37)[108]? = some (.inl (1, 5)) := rfl
theorem LY_X8_winter37_109 : (LY_X8_winter37)[109]? = some (.inr (4, [(2, 110), (2, 111), (0, 0), (0, 0), (0, 0)])) := rfl
theorem LY_X8_winter37_110 : (LY_X8_winter37)[110]? = some (.inl (1, 5)) := rfl
theorem LY_X8_winter37_111 : (LY_X8_winter37)[111]? = some (.inl (1, 5)) := rfl
theorem LY_X8_winter37_112 : (LY_X8_winter37)[112]? = some (.inr (6, [(2, 113), (2, 114), (2, 115), (2, 116), (0, 0), (2, 117), (2, 118), (2, 119), (2, 120), (2, 121), (2, 122), (2, 123), (2, 124), (0, 0), (0, 0), (0, 0), (0, 0), (0, 0)])) := rfl
theorem LY_X8_winter37_113 : (LY_X8_winter37)[113]? = some (.inl (2, 5)) := rfl
theorem LY_X8_winter37_114 : (LY_X8_winter37)[114]? = some (.inl (2, 5)) := rfl
theorem LY_X8_winter37_115 : (LY_X8_winter37)[115]? = some (.inl (1, 10)) := rfl
theorem LY_X8_winter37_116 : (LY_X8_winter37)[116]? = some (.inl (1, 12)) := rfl
theorem LY_X8_winter37_117 : (LY_X8_winter37)[117]? = some (.inl (1, 5)) := rfl
theorem LY_X8_winter37_118 : (LY_X8_winter37)[118]? = some (.inl (1, 5)) := rfl
theorem LY_X8_winter37_119 : (LY_X8_winter37)[119]? = some (.inl (1, 5)) := rfl
theorem LY_X8_winter37_120 : (LY_X8_winter37)[120]? = some (.inl (1, 5)) := rfl
theorem LY_X8_winter37_121 : (LY_X8_winter37)[121]? = some (.inl (1, 5)) := rfl
theorem LY_X8_winter37_122 : (LY_X8_winter37)[122]? = some (.inl (1, 5)) := rfl
theorem LY_X8_winter37_123 : (LY_X8_winter37)[123]? = some (.inl (1, 5)) := rfl
theorem LY_X8_winter37_124 : (LY_X8_winter37)[124]? = some (.inr (1, [(2, 125), (2, 126), (0, 0), (0, 0), (0, 0)])) := rfl
theorem LY_X8_winter37_125 : (LY_X8_winter37)[125]? = some (.inl (1, 1000)) := rfl
theorem LY_X8_winter37_126 : (LY_X8_winter37)[126]? = some (.inl (1, 32)) := rfl
theorem LY_X8_winter37_127 : (LY_X8_winter37)[127]? = some (.inr (6, [(2, 128), (2, 129), (2, 130), (2, 131), (0, 0), (2, 132), (2, 133), (2, 134), (2, 135), (2, 136), (2, 137), (2, 138), (2, 139), (0, 0), (0, 0), (0, 0), (0, 0), (0, 0)])) := rfl
theorem LY_X8_winter37_128 : (LY_X8_winter37)[128]? = some (.inl (2, 5)) := rfl
theorem LY_X8_winter37_129 : (LY_X8_winter37)[129]? = some (.inl (2, 5)) := rfl
theorem LY_X8_winter37_130 : (LY_X8_winter37)[130]? = some (.inl (1, 10)) := rfl
theorem LY_X8_winter37_131 : (LY_X8_winter37)[131]? = some (.inl (1, 12)) := rfl
theorem LY_X8_winter37_132 : (LY_X8_winter37)[132]? = some (.inl (1, 5)) := rfl
theorem LY_X8_winter37_133 : (LY_X8_winter37)[133]? = some (.inl (1, 5)) := rfl
theorem LY_X8_winter37_134 : (LY_X8_winter37)[134]? = some (.inl (1, 5)) := rfl
theorem LY_X8_winter37_135 : (LY_X8_winter37)[135]? = some (.inl (1, 5)) := rfl
theorem LY_X8_winter37_136 : (LY_X8_winter37)[136]? = some (.inl (1, 5)) := rfl
theorem LY_X8_winter37_137 : (LY_X8_winter37)[137]? = some (.inl (1, 5)) := rfl
theorem LY_X8_winter37_138 : (LY_X8_winter37)[138]? = some (.inl (1, 5)) := rfl
theorem LY_X8_winter37_139 : (LY_X8_winter37)[139]? = some (.inr (1, [(2, 140), (2, 141), (0, 0), (0, 0), (0, 0)])) := rfl
theorem LY_X8_winter37_140 : (LY_X8_winter37)[140]? = some (.inl (1, 1000)) := rfl
theorem LY_X8_winter37_141 : (LY_X8_winter37)[141]? = some (.inl (1, 32)) := rfl
theorem LY_X8_winter37_142 : (LY_X8_winter37)[142]? = some (.inr (7, [(2, 143), (2, 144), (2, 145), (0, 0)])) := rfl
theorem LY_X8_winter37_143 : (LY_X8_winter37)[143]? = some (.inl (0, 40)) := rfl
theorem LY_X8_winter37_144 : (LY_X8_winter37)[144]? = some (.inl (0, 40)) := rfl
theorem LY_X8_winter37_145 : (LY_X8_winter37)[145]? = some (.inl (1, 40)) := rfl
theorem LY_X8_winter37_146 : (LY_X8_winter37)[146]? = some (.inr (7, [(2, 147), (2, 148), (2, 149), (0, 0)])) := rfl
theorem LY_X8_winter37_147 : (LY_X8_winter37)[147]? = some (.inl (0, 40)) := rfl
theorem LY_X8_winter37_148 : (LY_X8_winter37)[148]? = some (.inl (0, 40)) := rfl
theorem LY_X8_winter37_149 : (LY_X8_winter37)[149]? = some (.inl (1, 40)) := rfl
def LY_X9 : List Shp := [.inr (9, [(0, 0), (0, 0), (2, 1), (0, 0), (0, 0), (0, 0), (0, 0), (1, 0), (0, 0), (0, 0), (2, 2), (2, 3), (2, 4), (2, 5), (2, 6), (2, 7), (2, 8), (2, 9), (2, 10), (2, 11), (2, 12), (2, 13), (2, 14), (2, 15), (0, 0), (0, 0), (2, 16), (2, 17), (2, 18), (2, 19), (2, 20), (2, 21), (2, 22), (2, 23), (2, 24), (2, 25), (2, 26), (2, 27), (0, 0), (1, 0), (2, 28), (2, 29), (2, 30), (2, 31), (2, 32), (2, 33), (2, 34), (2, 35), (2, 36), (2, 37), (2, 38), (2, 39), (2, 40), (0, 0), (0, 0), (0, 0), (2, 41), (2, 42), (0, 0), (0, 0), (0, 0), (1, 0)]), .inl (1, 1000), .inl (1, 8), .inl (2, 10), .inl (2, 10), .inl (1, 10), .inl (1, 10), .inl (1, 10), .inl (1, 10), .inl (1, 10), .inl (1, 10), .inl (1, 20), .inl (1, 24), .inl (1, 2), .inl (1, 2), .inl (1, 2000), .inl (1, 7), .inl (3, 7), .inl (1, 7), .inl (1, 7), .inl (1, 7), .inl (1, 7), .inl (1, 7), .inl (1, 7), .inl (1, 7), .inl (1, 7), .inl (1, 7), .inl (1, 20), .inl (1, 6), .inl (1, 240), .inl (1, 240), .inl (1, 240), .inl (1, 5), .inl (1, 40), .inl (3, 40), .inl (1, 13), .inl (1, 13), .inl (1, 13), .inl (1, 52), .inl (1, 208), .inl (3, 4), .inl (1, 5), .inl (1, 5)]
theorem LY_X9_0 : (LY_X9)[0]? = some (.inr (9, [(0, 0), (0, 0), (2, 1), (0, 0), (0, 0), (0, 0), (0, 0), (1, 0), (0, 0), (0, 0), (2, 2), (2, 3), (2, 4), (2, 5), (2, 6), (2, 7), (2, 8), (2, 9), (2, 10), (2, 11), (2, 12), (2, 13), (2, 14), (2, 15), (0, 0), (0, 0), (2, 16), (2, 17), (2, 18), (2, 19), (2, 20), (2, 21), (2, 22), (2, 23), (2, 24), (2, 25), (2, 26), (2, 27), (0, 0), (1, 0), (2, 28), (2, 29), (2, 30), (2, 31), (2, 32), (2, 33), (2, 34), (2, 35), (2, 36), (2, 37), (2, 38), (2, 39), (2, 40), (0, 0), (0, 0), (0, 0), (2, 41), (2, 42), (0, 0), (0, 0), (0, 0), (1, 0)])) := rfl
theorem LY_X9_1 : (LY_X9)[1]? = some (.inl (1, 1000)) := rfl
theorem LY_X9_2 : (LY_X9)[2]? = some (.inl (1, 8)) := rfl
theorem LY_X9_3 : (LY_X9)[3]? = some (.inl (2, 10)) := rfl
theorem LY_X9_4 : (LY_X9)[4]? = some (.inl (2, 10)) := rfl
theorem LY_X9_5 : (LY_X9)[5]? = some (.inl (1, 10)) := rfl
theorem LY_X9_6 : (LY_X9)[6]? = some (.inl (1, 10)) := rfl
theorem LY_X9_7 : (LY_X9)[7]? = some (.inl (1, 10)) := rfl
theorem LY_X9_8 : (LY_X9)[8]? = some (.inl (1, 10)) := rfl
theorem LY_X9_9 : (LY_X9)[9]? = some (.inl (1, 10)) := rfl
theorem LY_X9_10 : (LY_X9)[10]? = some (.inl (1, 10)) := rfl
theorem LY_X9_11 : (LY_X9)[11]? = some (.inl (1, 20)) := rfl
theorem LY_X9_12 : (LY_X9)[12]? = some (.inl (1, 24)) := rfl
theorem LY_X9_13 : (LY_X9)[13]? = some (.inl (1, 2)) := rfl
theorem LY_X9_14 : (LY_X9)[14]? = some (.inl (1, 2)) := rfl
theorem LY_X9_15 : (LY_X9)[15]? = some (.inl (1, 2000)) := rfl
theorem LY_X9_16 : (LY_X9)[16]? = some (.inl (1, 7)) := rfl
theorem LY_X9_17 : (LY_X9)[17]? = some (.inl (3, 7)) := rfl
theorem LY_X9_18 : (LY_X9)[18]? = some (.inl (1, 7)) := rfl
theorem LY_X9_19 : (LY_X9)[19]? = some (.inl (1, 7)) := rfl
theorem LY_X9_20 : (LY_X9)[20]? = some (.inl (1, 7)) := rfl
theorem LY_X9_21 : (LY_X9)[21]? = some (.inl (1, 7)) := rfl
theorem LY_X9_22 : (LY_X9)[22]? = some (.inl (1, 7)) := rfl
theorem LY_X9_23 : (LY_X9)[23]? = some (.inl (1, 7)) := rfl
theorem LY_X9_24 : (LY_X9)[24]? = some (.inl (1, 7)) := rfl
theorem LY_X9_25 : (LY_X9)[25]? = some (.inl (1, 7)) := rfl
theorem LY_X9_26 : (LY_X9)[26]? = some (.inl (1, 7)) := rfl
theorem LY_X9_27 : (LY_X9)[27]? = some (.inl (1, 20)) := rfl
theorem LY_X9_28 : (LY_X9)[28]? = some (.inl (1, 6)) := rfl
theorem LY_X9_29 : (LY_X9)[29]? = some (.inl (1, 240)) := rfl
theorem LY_X9_30 : (LY_X9)[30]? = some (.inl (1, 240)) := rfl
theorem LY_X9_31 : (LY_X9)[31]? = some (.inl (1, 240)) := rfl
theorem LY_X9_32 : (LY_X9)[32]? = some (.inl (1, 5)) := rfl
theorem LY_X9_33 : (LY_X9)[33]? = some (.inl (1, 40)) := rfl
theorem LY_X9_34 : (LY_X9)[34]? = some (.inl (3, 40)) := rfl
theorem LY_X9_35 : (LY_X9)[35]? = some (.inl (1, 13)) := rfl
theorem LY_X9_36 : (LY_X9)[36]? = some (.inl (1, 13)) := rfl
theorem LY_X9_37 : (LY_X9)[37]? = some (.inl (1, 13)) := rfl
theorem LY_X9_38 : (LY_X9)[38]? = some (.inl (1, 52)) := rfl
theorem LY_X9_39 : (LY_X9)[39]? = some (.inl (1, 208)) := rfl
theorem LY_X9_40 : (LY_X9)[40]? = some (.inl (3, 4)) := rfl
theorem LY_X9_41 : (LY_X9)[41]? = some (.inl (1, 5)) := rfl
theorem LY_X9_42 : (LY_X9)[42]? = some (.inl (1, 5)) := rfl
def LY_aI (n1 : Nat) : List Shp := [.inl (1, n1)]
theorem LY_aI_0 {n1 : Nat} : (LY_aI n1)[0]? = some (.inl (1, n1)) := rfl
def LY_aIaI (n1 : Nat) (n2 : Nat) : List Shp := [.inl (1, n1), .inl (1, n2)]
theorem LY_aIaI_0 {n1 : Nat} {n2 : Nat} : (LY_aIaI n1 n2)[0]? = some (.inl (1, n1)) := rfl
theorem LY_aIaI_1 {n1 : Nat} {n2 : Nat} : (LY_aIaI n1 n2)[1]? = some (.inl (1, n2)) := rfl
def pl_LY_X0X6_LY_X6_3_4_5407097 : List Nat := [3, 4, 5, 6, 7, 8, 9, 10, 11, 12, 13, 14, 15, 16, 17]
def pl_LY_X0X6_LY_X0_0_1_2 : List Nat := [0, 1, 2]
def pl_LY_X5_LY_0_ : List Nat := []
def pl_LY_X1X5_LY_X5_3_4_5 : List Nat := [3, 4, 5]
def pl_LY_X1X5_LY_X1_0_1_2 : List Nat := [0, 1, 2]
def pl_LY_X1X5_LY_0_ : List Nat := []
def pl_LY_X1_LY_0_ : List Nat := []
def pl_LY_X4X6_LY_X1_15_16_17 : List Nat := [15, 16, 17]
def pl_LY_X2X6X4_LY_X4X6_20_21_72255155 : List Nat := [20, 21, 22, 5, 6, 7, 8, 9, 10, 11, 12, 13, 14, 15, 16, 17, 18, 19]
def pl_LY_X2X6X4_LY_0_ : List Nat := []
def pl_LY_X2X6X4_LY_X2X6_0_1_24717415 : List Nat := [0, 1, 2, 3, 4, 5, 6, 7, 8, 9, 10, 11, 12, 13, 14, 15, 16, 17, 18, 19]
def pl_LY_X2X6X4_LY_X2_0_1_2_3_4 : List Nat := [0, 1, 2, 3, 4]
def pl_LY_X2X6X4_LY_X6_5_6_76939655 : List Nat := [5, 6, 7, 8, 9, 10, 11, 12, 13, 14, 15, 16, 17, 18, 19]
def pl_LY_X3X4X7X0_LY_X4X4_1_2_3_11_12_13 : List Nat := [1, 2, 3, 11, 12, 13]
def pl_LY_X3X4X7X0_LY_X7X7_4_5_3177325 : List Nat := [4, 5, 6, 7, 14, 15, 16, 17]
def pl_LY_X3X4X7X0_LY_X0X0_8_9_10_18_19_20 : List Nat := [8, 9, 10, 18, 19, 20]
def pl_LY_X3X4X7X0_LY_X4X4_11_12_13_1_2_3 : List Nat := [11, 12, 13, 1, 2, 3]
def pl_LY_X3X4X7X0_LY_X7X7_14_15_23041770 : List Nat := [14, 15, 16, 17, 4, 5, 6, 7]
def pl_LY_X3X4X7X0_LY_X0X0_18_19_20_8_9_10 : List Nat := [18, 19, 20, 8, 9, 10]
def pl_LY_X4X6_LY_X4_0_1_2 : List Nat := [0, 1, 2]
def pl_LY_X4X6_LY_0_ : List Nat := []
def pl_LY_X4X6_LY_X6_3_4_5407097 : List Nat := [3, 4, 5, 6, 7, 8, 9, 10, 11, 12, 13, 14, 15, 16, 17]
def pl_LY_X6X5_LY_X5_15_16_17 : List Nat := [15, 16, 17]
def pl_LY_X6X5_LY_aJ_1 : List Nat := [1]
def pl_LY_X6X5_LY_aJ_2 : List Nat := [2]
def pl_LY_X6X5_LY_0_ : List Nat := []
def pl_LY_X6X5_LY_X1X5_12_13_14_15_16_17 : List Nat := [12, 13, 14, 15, 16, 17]
def pl_LY_X6X5_LY_X6_0_1_6604944 : List Nat := [0, 1, 2, 3, 4, 5, 6, 7, 8, 9, 10, 11, 12, 13, 14]
def pl_LY_X7X5X6_LY_X6X5_7_8_35335712 : List Nat := [7, 8, 9, 10, 11, 12, 13, 14, 15, 16, 17, 18, 19, 20, 21, 4, 5, 6]
def pl_LY_X7X5X6_LY_0_ : List Nat := []
def pl_LY_X7X5X6_LY_X5_4_5_6 : List Nat := [4, 5, 6]
def pl_LY_X7X6X4_LY_X4_19_20_21 : List Nat := [19, 20, 21]
def pl_LY_X7X6X4_LY_X4X6_19_20_85921260 : List Nat := [19, 20, 21, 4, 5, 6, 7, 8, 9, 10, 11, 12, 13, 14, 15, 16, 17, 18]
def pl_LY_X7X6X4_LY_X6_4_5_96029952 : List Nat := [4, 5, 6, 7, 8, 9, 10, 11, 12, 13, 14, 15, 16, 17, 18]
def pl_LY_X8_LY_X5_1_2_3 : List Nat := [1, 2, 3]
def pl_LY_X8_LY_X6X5_127_128_57293716 : List Nat := [127, 128, 129, 130, 131, 132, 133, 134, 135, 136, 137, 138, 139, 140, 141, 1, 2, 3]
def pl_LY_X8_terrace33_LY_X4X6_4_5_7840244 : List Nat := [4, 5, 6, 127, 128, 129, 130, 131, 132, 133, 134, 135, 136, 137, 138, 139, 140, 141]
def pl_LY_X8_LY_X7X5X6_146_147_68575511 : List Nat := [146, 147, 148, 149, 1, 2, 3, 112, 113, 114, 115, 116, 117, 118, 119, 120, 121, 122, 123, 124, 125, 126]
def pl_LY_X8_LY_X6_112_113_59166342 : List Nat := [112, 113, 114, 115, 116, 117, 118, 119, 120, 121, 122, 123, 124, 125, 126]
def pl_LY_X8_LY_X4X6_4_5_5025986 : List Nat := [4, 5, 6, 112, 113, 114, 115, 116, 117, 118, 119, 120, 121, 122, 123, 124, 125, 126]
def pl_LY_X8_LY_X4_4_5_6 : List Nat := [4, 5, 6]
def pl_LY_X8_LY_X7X6X4_142_143_14484231 : List Nat := [142, 143, 144, 145, 112, 113, 114, 115, 116, 117, 118, 119, 120, 121, 122, 123, 124, 125, 126, 7, 8, 9]
def pl_LY_X8_LY_0_ : List Nat := []
def pl_LY_X8_LY_X4X4_7_8_9_4_5_6 : List Nat := [7, 8, 9, 4, 5, 6]
def pl_LY_X8_LY_X2X6X4_13_14_56151515 : List Nat := [13, 14, 15, 16, 17, 112, 113, 114, 115, 116, 117, 118, 119, 120, 121, 122, 123, 124, 125, 126, 7, 8, 9]
def pl_LY_X8_LY_X0_10_11_12 : List Nat := [10, 11, 12]
def pl_LY_X8_LY_X0X6_10_11_23595617 : List Nat := [10, 11, 12, 112, 113, 114, 115, 116, 117, 118, 119, 120, 121, 122, 123, 124, 125, 126]
def pl_LY_X8_LY_X4X6_7_8_21942644 : List Nat := [7, 8, 9, 112, 113, 114, 115, 116, 117, 118, 119, 120, 121, 122, 123, 124, 125, 126]
def pl_LY_X8_LY_X4_7_8_9 : List Nat := [7, 8, 9]
def pl_LY_X9_LY_0_ : List Nat := []
def pl_LY_X9_LY_aI_2 : List Nat := [2]
def pl_LY_X9_LY_aJ_3 : List Nat := [3]
def pl_LY_X9_LY_aJ_4 : List Nat := [4]
def pl_LY_X9_LY_aI_5 : List Nat := [5]
def pl_LY_X9_LY_aI_6 : List Nat := [6]
def pl_LY_X9_LY_aI_7 : List Nat := [7]
def pl_LY_X9_LY_aI_8 : List Nat := [8]
def pl_LY_X9_LY_aI_9 : List Nat := [9]
def pl_LY_X9_LY_aI_10 : List Nat := [10]
def pl_LY_X9_LY_aI_11 : List Nat := [11]
def pl_LY_X9_LY_aI_12 : List Nat := [12]
def pl_LY_X9_LY_aI_15 : List Nat := [15]
def pl_LY_X9_LY_aIaI_35_39 : List Nat := [35, 39]
def pl_LY_X9_LY_aIaI_39_35 : List Nat := [39, 35]
def pl_LY_X9_LY_aIaI_36_35 : List Nat := [36, 35]
def pl_LY_X9_LY_aIaI_35_36 : List Nat := [35, 36]
def pl_LY_X9_LY_aIaI_37_35 : List Nat := [37, 35]
def pl_LY_X9_LY_aIaI_35_37 : List Nat := [35, 37]
def pl_LY_X9_LY_aIaI_35_38 : List Nat := [35, 38]
def pl_LY_X9_LY_aIaI_38_35 : List Nat := [38, 35]
def pl_LY_X8_LY_X3X4X7X0_19_20_91975998 : List Nat := [19, 20, 21, 22, 23, 24, 25, 26, 27, 28, 29, 4, 5, 6, 142, 143, 144, 145, 10, 11, 12]
def pl_LY_X8_LY_X3X4X7X0_30_31_87269722 : List Nat := [30, 31, 32, 33, 34, 35, 36, 37, 38, 39, 40, 4, 5, 6, 142, 143, 144, 145, 10, 11, 12]
def pl_LY_X8_LY_X3X4X7X0_41_42_3236891 : List Nat := [41, 42, 43, 44, 45, 46, 47, 48, 49, 50, 51, 4, 5, 6, 142, 143, 144, 145, 10, 11, 12]
def pl_LY_X8_LY_X3X4X7X0_52_53_83078257 : List Nat := [52, 53, 54, 55, 56, 57, 58, 59, 60, 61, 62, 4, 5, 6, 142, 143, 144, 145, 10, 11, 12]
theorem sb_LY_X0X6_LY_X6_3_4_5407097 : subB LY_X0X6 pl_LY_X0X6_LY_X6_3_4_5407097 LY_X6 pl_LY_X0X6_LY_X6_3_4_5407097 = true := rfl
theorem sb_LY_X0X6_LY_X0_0_1_2 : subB LY_X0X6 pl_LY_X0X6_LY_X0_0_1_2 LY_X0 pl_LY_X0X6_LY_X0_0_1_2 = true := rfl
theorem sb_LY_X5_LY_0_ : subB LY_X5 pl_LY_X5_LY_0_ LY_0 pl_LY_X5_LY_0_ = true := rfl
theorem sb_LY_X1X5_LY_X5_3_4_5 : subB LY_X1X5 pl_LY_X1X5_LY_X5_3_4_5 LY_X5 pl_LY_X1X5_LY_X5_3_4_5 = true := rfl
theorem sb_LY_X1X5_LY_X1_0_1_2 : subB LY_X1X5 pl_LY_X1X5_LY_X1_0_1_2 LY_X1 pl_LY_X1X5_LY_X1_0_1_2 = true := rfl
theorem sb_LY_X1X5_LY_0_ : subB LY_X1X5 pl_LY_X1X5_LY_0_ LY_0 pl_LY_X1X5_LY_0_ = true := rfl
theorem sb_LY_X1_LY_0_ : subB LY_X1 pl_LY_X1_LY_0_ LY_0 pl_LY_X1_LY_0_ = true := rfl
theorem sb_LY_X4X6_LY_X1_15_16_17 : subB LY_X4X6 pl_LY_X4X6_LY_X1_15_16_17 LY_X1 pl_LY_X4X6_LY_X1_15_16_17 = true := rfl
theorem sb_LY_X2X6X4_LY_X4X6_20_21_72255155 : subB LY_X2X6X4 pl_LY_X2X6X4_LY_X4X6_20_21_72255155 LY_X4X6 pl_LY_X2X6X4_LY_X4X6_20_21_72255155 = true := rfl
theorem sb_LY_X2X6X4_LY_0_ : subB LY_X2X6X4 pl_LY_X2X6X4_LY_0_ LY_0 pl_LY_X2X6X4_LY_0_ = true := rfl
theorem sb_LY_X2X6X4_LY_X2X6_0_1_24717415 : subB LY_X2X6X4 pl_LY_X2X6X4_LY_X2X6_0_1_24717415 LY_X2X6 pl_LY_X2X6X4_LY_X2X6_0_1_24717415 = true := rfl
theorem sb_LY_X2X6X4_LY_X2_0_1_2_3_4 : subB LY_X2X6X4 pl_LY_X2X6X4_LY_X2_0_1_2_3_4 LY_X2 pl_LY_X2X6X4_LY_X2_0_1_2_3_4 = true := rfl
theorem sb_LY_X2X6X4_LY_X6_5_6_76939655 : subB LY_X2X6X4 pl_LY_X2X6X4_LY_X6_5_6_76939655 LY_X6 pl_LY_X2X6X4_LY_X6_5_6_76939655 = true := rfl
theorem sb_LY_X3X4X7X0_LY_X4X4_1_2_3_11_12_13 : subB LY_X3X4X7X0 pl_LY_X3X4X7X0_LY_X4X4_1_2_3_11_12_13 LY_X4X4 pl_LY_X3X4X7X0_LY_X4X4_1_2_3_11_12_13 = true := rfl
theorem sb_LY_X3X4X7X0_LY_X7X7_4_5_3177325 : subB LY_X3X4X7X0 pl_LY_X3X4X7X0_LY_X7X7_4_5_3177325 LY_X7X7 pl_LY_X3X4X7X0_LY_X7X7_4_5_3177325 = true := rfl
theorem sb_LY_X3X4X7X0_LY_X0X0_8_9_10_18_19_20 : subB LY_X3X4X7X0 pl_LY_X3X4X7X0_LY_X0X0_8_9_10_18_19_20 LY_X0X0 pl_LY_X3X4X7X0_LY_X0X0_8_9_10_18_19_20 = true := rfl
theorem sb_LY_X3X4X7X0_LY_X4X4_11_12_13_1_2_3 : subB LY_X3X4X7X0 pl_LY_X3X4X7X0_LY_X4X4_11_12_13_1_2_3 LY_X4X4 pl_LY_X3X4X7X0_LY_X4X4_11_12_13_1_2_3 = true := rfl
theorem sb_LY_X3X4X7X0_LY_X7X7_14_15_23041770 : subB LY_X3X4X7X0 pl_LY_X3X4X7X0_LY_X7X7_14_15_23041770 LY_X7X7 pl_LY_X3X4X7X0_LY_X7X7_14_15_23041770 = true := rfl
theorem sb_LY_X3X4X7X0_LY_X0X0_18_19_20_8_9_10 : subB LY_X3X4X7X0 pl_LY_X3X4X7X0_LY_X0X0_18_19_20_8_9_10 LY_X0X0 pl_LY_X3X4X7X0_LY_X0X0_18_19_20_8_9_10 = true := rfl
theorem sb_LY_X4X6_LY_X4_0_1_2 : subB LY_X4X6 pl_LY_X4X6_LY_X4_0_1_2 LY_X4 pl_LY_X4X6_LY_X4_0_1_2 = true := rfl
theorem sb_LY_X4X6_LY_0_ : subB LY_X4X6 pl_LY_X4X6_LY_0_ LY_0 pl_LY_X4X6_LY_0_ = true := rfl
theorem sb_LY_X4X6_LY_X6_3_4_5407097 : subB LY_X4X6 pl_LY_X4X6_LY_X6_3_4_5407097 LY_X6 pl_LY_X4X6_LY_X6_3_4_5407097 = true := rfl
theorem sb_LY_X6X5_LY_X5_15_16_17 : subB LY_X6X5 pl_LY_X6X5_LY_X5_15_16_17 LY_X5 pl_LY_X6X5_LY_X5_15_16_17 = true := rfl
theorem sb_LY_X6X5_LY_aJ_1 : subB LY_X6X5 pl_LY_X6X5_LY_aJ_1 (LY_aJ 5) pl_LY_X6X5_LY_aJ_1 = true := rfl
theorem sb_LY_X6X5_LY_aJ_2 : subB LY_X6X5 pl_LY_X6X5_LY_aJ_2 (LY_aJ 5) pl_LY_X6X5_LY_aJ_2 = true := rfl
theorem sb_LY_X6X5_LY_0_ : subB LY_X6X5 pl_LY_X6X5_LY_0_ LY_0 pl_LY_X6X5_LY_0_ = true := rfl
theorem sb_LY_X6X5_LY_X1X5_12_13_14_15_16_17 : subB LY_X6X5 pl_LY_X6X5_LY_X1X5_12_13_14_15_16_17 LY_X1X5 pl_LY_X6X5_LY_X1X5_12_13_14_15_16_17 = true := rfl
theorem sb_LY_X6X5_LY_X6_0_1_6604944 : subB LY_X6X5 pl_LY_X6X5_LY_X6_0_1_6604944 LY_X6 pl_LY_X6X5_LY_X6_0_1_6604944 = true := rfl
theorem sb_LY_X7X5X6_LY_X6X5_7_8_35335712 : subB LY_X7X5X6 pl_LY_X7X5X6_LY_X6X5_7_8_35335712 LY_X6X5 pl_LY_X7X5X6_LY_X6X5_7_8_35335712 = true := rfl
theorem sb_LY_X7X5X6_LY_0_ : subB LY_X7X5X6 pl_LY_X7X5X6_LY_0_ LY_0 pl_LY_X7X5X6_LY_0_ = true := rfl
theorem sb_LY_X7X5X6_LY_X5_4_5_6 : subB LY_X7X5X6 pl_LY_X7X5X6_LY_X5_4_5_6 LY_X5 pl_LY_X7X5X6_LY_X5_4_5_6 = true := rfl
theorem sb_LY_X7X6X4_LY_X4_19_20_21 : subB LY_X7X6X4 pl_LY_X7X6X4_LY_X4_19_20_21 LY_X4 pl_LY_X7X6X4_LY_X4_19_20_21 = true := rfl
theorem sb_LY_X7X6X4_LY_X4X6_19_20_85921260 : subB LY_X7X6X4 pl_LY_X7X6X4_LY_X4X6_19_20_85921260 LY_X4X6 pl_LY_X7X6X4_LY_X4X6_19_20_85921260 = true := rfl
theorem sb_LY_X7X6X4_LY_X6_4_5_96029952 : subB LY_X7X6X4 pl_LY_X7X6X4_LY_X6_4_5_96029952 LY_X6 pl_LY_X7X6X4_LY_X6_4_5_96029952 = true := rfl
theorem sb_LY_X8_LY_X5_1_2_3 : subB LY_X8 pl_LY_X8_LY_X5_1_2_3 LY_X5 pl_LY_X8_LY_X5_1_2_3 = true := rfl
theorem sb_LY_X8_LY_X6X5_127_128_57293716 : subB LY_X8 pl_LY_X8_LY_X6X5_127_128_57293716 LY_X6X5 pl_LY_X8_LY_X6X5_127_128_57293716 = true := rfl
theorem sb_LY_X8_terrace33_LY_X4X6_4_5_7840244 : subB LY_X8_terrace33 pl_LY_X8_terrace33_LY_X4X6_4_5_7840244 LY_X4X6 pl_LY_X8_terrace33_LY_X4X6_4_5_7840244 = true := rfl
theorem sb_LY_X8_LY_X7X5X6_146_147_68575511 : subB LY_X8 pl_LY_X8_LY_X7X5X6_146_147_68575511 LY_X7X5X6 pl_LY_X8_LY_X7X5X6_146_147_68575511 = true := rfl
theorem sb_LY_X8_LY_X6_112_113_59166342 : subB LY_X8 pl_LY_X8_LY_X6_112_113_59166342 LY_X6 pl_LY_X8_LY_X6_112_113_59166342 = true := rfl
theorem sb_LY_X8_LY_X4X6_4_5_5025986 : subB LY_X8 pl_LY_X8_LY_X4X6_4_5_5025986 LY_X4X6 pl_LY_X8_LY_X4X6_4_5_5025986 = true := rfl
theorem sb_LY_X8_LY_X4_4_5_6 : subB LY_X8 pl_LY_X8_LY_X4_4_5_6 LY_X4 pl_LY_X8_LY_X4_4_5_6 = true := rfl
theorem sb_LY_X8_LY_X7X6X4_142_143_14484231 : subB LY_X8 pl_LY_X8_LY_X7X6X4_142_143_14484231 LY_X7X6X4 pl_LY_X8_LY_X7X6X4_142_143_14484231 = true := rfl
theorem sb_LY_X8_LY_0_ : subB LY_X8 pl_LY_X8_LY_0_ LY_0 pl_LY_X8_LY_0_ = true := rfl
theorem sb_LY_X8_LY_X4X4_7_8_9_4_5_6 : subB LY_X8 pl_LY_X8_LY_X4X4_7_8_9_4_5_6 LY_X4X4 pl_LY_X8_LY_X4X4_7_8_9_4_5_6 = true := rfl
theorem sb_LY_X8_LY_X2X6X4_13_14_56151515 : subB LY_X8 pl_LY_X8_LY_X2X6X4_13_14_56151515 LY_X2X6X4 pl_LY_X8_LY_X2X6X4_13_14_56151515 = true := rfl
theorem sb_LY_X8_LY_X0_10_11_12 : subB LY_X8 pl_LY_X8_LY_X0_10_11_12 LY_X0 pl_LY_X8_LY_X0_10_11_12 = true := rfl
theorem sb_LY_X8_LY_X0X6_10_11_23595617 : subB LY_X8 pl_LY_X8_LY_X0X6_10_11_23595617 LY_X0X6 pl_LY_X8_LY_X0X6_10_11_23595617 = true := rfl
theorem sb_LY_X8_LY_X4X6_7_8_21942644 : subB LY_X8 pl_LY_X8_LY_X4X6_7_8_21942644 LY_X4X6 pl_LY_X8_LY_X4X6_7_8_21942644 = true := rfl
theorem sb_LY_X8_LY_X4_7_8_9 : subB LY_X8 pl_LY_X8_LY_X4_7_8_9 LY_X4 pl_LY_X8_LY_X4_7_8_9 = true := rfl
theorem sb_LY_X9_LY_0_ : subB LY_X9 pl_LY_X9_LY_0_ LY_0 pl_LY_X9_LY_0_ = true := rfl
theorem sb_LY_X9_LY_aI_2 : subB LY_X9 pl_LY_X9_LY_aI_2 (LY_aI 8) pl_LY_X9_LY_aI_2 = true := rfl
theorem sb_LY_X9_LY_aJ_3 : subB LY_X9 pl_LY_X9_LY_aJ_3 (LY_aJ 10) pl_LY_X9_LY_aJ_3 = true := rfl
theorem sb_LY_X9_LY_aJ_4 : subB LY_X9 pl_LY_X9_LY_aJ_4 (LY_aJ 10) pl_LY_X9_LY_aJ_4 = true := rfl
theorem sb_LY_X9_LY_aI_5 : subB LY_X9 pl_LY_X9_LY_aI_5 (LY_aI 10) pl_LY_X9_LY_aI_5 = true := rfl
theorem sb_LY_X9_LY_aI_6 : subB LY_X9 pl_LY_X9_LY_aI_6 (LY_aI 10) pl_LY_X9_LY_aI_6 = true := rfl
theorem sb_LY_X9_LY_aI_7 : subB LY_X9 pl_LY_X9_LY_aI_7 (LY_aI 10) pl_LY_X9_LY_aI_7 = true := rfl
theorem sb_LY_X9_LY_aI_8 : subB LY_X9 pl_LY_X9_LY_aI_8 (LY_aI 10) pl_LY_X9_LY_aI_8 = true := rfl
theorem sb_LY_X9_LY_aI_9 : subB LY_X9 pl_LY_X9_LY_aI_9 (LY_aI 10) pl_LY_X9_LY_aI_9 = true := rfl
theorem sb_LY_X9_LY_aI_10 : subB LY_X9 pl_LY_X9_LY_aI_10 (LY_aI 10) pl_LY_X9_LY_aI_10 = true := rfl
theorem sb_LY_X9_LY_aI_11 : subB LY_X9 pl_LY_X9_LY_aI_11 (LY_aI 20) pl_LY_X9_LY_aI_11 = true := rfl
theorem sb_LY_X9_LY_aI_12 : subB LY_X9 pl_LY_X9_LY_aI_12 (LY_aI 24) pl_LY_X9_LY_aI_12 = true := rfl
theorem sb_LY_X9_LY_aI_15 : subB LY_X9 pl_LY_X9_LY_aI_15 (LY_aI 2000) pl_LY_X9_LY_aI_15 = true := rfl
theorem sb_LY_X9_LY_aIaI_35_39 : subB LY_X9 pl_LY_X9_LY_aIaI_35_39 (LY_aIaI 13 208) pl_LY_X9_LY_aIaI_35_39 = true := rfl
theorem sb_LY_X9_LY_aIaI_39_35 : subB LY_X9 pl_LY_X9_LY_aIaI_39_35 (LY_aIaI 208 13) pl_LY_X9_LY_aIaI_39_35 = true := rfl
theorem sb_LY_X9_LY_aIaI_36_35 : subB LY_X9 pl_LY_X9_LY_aIaI_36_35 (LY_aIaI 13 13) pl_LY_X9_LY_aIaI_36_35 = true := rfl
theorem sb_LY_X9_LY_aIaI_35_36 : subB LY_X9 pl_LY_X9_LY_aIaI_35_36 (LY_aIaI 13 13) pl_LY_X9_LY_aIaI_35_36 = true := rfl
theorem sb_LY_X9_LY_aIaI_37_35 : subB LY_X9 pl_LY_X9_LY_aIaI_37_35 (LY_aIaI 13 13) pl_LY_X9_LY_aIaI_37_35 = true := rfl
theorem sb_LY_X9_LY_aIaI_35_37 : subB LY_X9 pl_LY_X9_LY_aIaI_35_37 (LY_aIaI 13 13) pl_LY_X9_LY_aIaI_35_37 = true := rfl
theorem sb_LY_X9_LY_aIaI_35_38 : subB LY_X9 pl_LY_X9_LY_aIaI_35_38 (LY_aIaI 13 52) pl_LY_X9_LY_aIaI_35_38 = true := rfl
theorem sb_LY_X9_LY_aIaI_38_35 : subB LY_X9 pl_LY_X9_LY_aIaI_38_35 (LY_aIaI 52 13) pl_LY_X9_LY_aIaI_38_35 = true := rfl
theorem sb_LY_X8_LY_X3X4X7X0_19_20_91975998 : subB LY_X8 pl_LY_X8_LY_X3X4X7X0_19_20_91975998 LY_X3X4X7X0 pl_LY_X8_LY_X3X4X7X0_19_20_91975998 = true := rfl
theorem sb_LY_X8_LY_X3X4X7X0_30_31_87269722 : subB LY_X8 pl_LY_X8_LY_X3X4X7X0_30_31_87269722 LY_X3X4X7X0 pl_LY_X8_LY_X3X4X7X0_30_31_87269722 = true := rfl
theorem sb_LY_X8_LY_X3X4X7X0_41_42_3236891 : subB LY_X8 pl_LY_X8_LY_X3X4X7X0_41_42_3236891 LY_X3X4X7X0 pl_LY_X8_LY_X3X4X7X0_41_42_3236891 = true := rfl
theorem sb_LY_X8_LY_X3X4X7X0_52_53_83078257 : subB LY_X8 pl_LY_X8_LY_X3X4X7X0_52_53_83078257 LY_X3X4X7X0 pl_LY_X8_LY_X3X4X7X0_52_53_83078257 = true := rfl
