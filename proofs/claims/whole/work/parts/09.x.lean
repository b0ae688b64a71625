theorem kI_m8 : Int32.ofInt (-8) = (-8) := by decide +kernel
theorem kI_m2 : Int32.ofInt (-2) = (-2) := by decide +kernel
theorem kI_m1 : Int32.ofInt (-1) = (-1) := by decide +kernel
theorem kI_0 : Int32.ofInt 0 = 0 := by decide +kernel
theorem kI_1 : Int32.ofInt 1 = 1 := by decide +kernel
theorem kI_2 : Int32.ofInt 2 = 2 := by decide +kernel
theorem kI_3 : Int32.ofInt 3 = 3 := by decide +kernel
theorem kI_4 : Int32.ofInt 4 = 4 := by decide +kernel
theorem kI_5 : Int32.ofInt 5 = 5 := by decide +kernel
theorem kB_m2 : (Int8.ofInt (-2)).toInt32 = (-2) := by decide +kernel
theorem kB_6 : (Int8.ofInt 6).toInt32 = 6 := by decide +kernel
theorem kB_7 : (Int8.ofInt 7).toInt32 = 7 := by decide +kernel
theorem kB_8 : (Int8.ofInt 8).toInt32 = 8 := by decide +kernel
theorem kB_9 : (Int8.ofInt 9).toInt32 = 9 := by decide +kernel
theorem kB_10 : (Int8.ofInt 10).toInt32 = 10 := by decide +kernel
theorem kB_11 : (Int8.ofInt 11).toInt32 = 11 := by decide +kernel
theorem kB_12 : (Int8.ofInt 12).toInt32 = 12 := by decide +kernel
theorem kB_13 : (Int8.ofInt 13).toInt32 = 13 := by decide +kernel
theorem kB_16 : (Int8.ofInt 16).toInt32 = 16 := by decide +kernel
theorem kB_17 : (Int8.ofInt 17).toInt32 = 17 := by decide +kernel
theorem kB_20 : (Int8.ofInt 20).toInt32 = 20 := by decide +kernel
theorem kB_21 : (Int8.ofInt 21).toInt32 = 21 := by decide +kernel
theorem kB_22 : (Int8.ofInt 22).toInt32 = 22 := by decide +kernel
theorem kB_24 : (Int8.ofInt 24).toInt32 = 24 := by decide +kernel
theorem kB_25 : (Int8.ofInt 25).toInt32 = 25 := by decide +kernel
theorem kB_26 : (Int8.ofInt 26).toInt32 = 26 := by decide +kernel
theorem kB_27 : (Int8.ofInt 27).toInt32 = 27 := by decide +kernel
theorem kB_28 : (Int8.ofInt 28).toInt32 = 28 := by decide +kernel
theorem kB_29 : (Int8.ofInt 29).toInt32 = 29 := by decide +kernel
theorem kB_30 : (Int8.ofInt 30).toInt32 = 30 := by decide +kernel
theorem kB_31 : (Int8.ofInt 31).toInt32 = 31 := by decide +kernel
theorem kB_32 : (Int8.ofInt 32).toInt32 = 32 := by decide +kernel
theorem kB_40 : (Int8.ofInt 40).toInt32 = 40 := by decide +kernel
theorem kB_41 : (Int8.ofInt 41).toInt32 = 41 := by decide +kernel
theorem kB_42 : (Int8.ofInt 42).toInt32 = 42 := by decide +kernel
theorem kB_43 : (Int8.ofInt 43).toInt32 = 43 := by decide +kernel
theorem kB_45 : (Int8.ofInt 45).toInt32 = 45 := by decide +kernel
theorem kB_48 : (Int8.ofInt 48).toInt32 = 48 := by decide +kernel
theorem kB_56 : (Int8.ofInt 56).toInt32 = 56 := by decide +kernel
theorem kB_57 : (Int8.ofInt 57).toInt32 = 57 := by decide +kernel
theorem kB_59 : (Int8.ofInt 59).toInt32 = 59 := by decide +kernel
theorem kB_60 : (Int8.ofInt 60).toInt32 = 60 := by decide +kernel
theorem kB_61 : (Int8.ofInt 61).toInt32 = 61 := by decide +kernel
theorem kB_63 : (Int8.ofInt 63).toInt32 = 63 := by decide +kernel
theorem kB_97 : (Int8.ofInt 97).toInt32 = 97 := by decide +kernel
theorem kB_99 : (Int8.ofInt 99).toInt32 = 99 := by decide +kernel
theorem kB_100 : (Int8.ofInt 100).toInt32 = 100 := by decide +kernel
theorem kB_122 : (Int8.ofInt 122).toInt32 = 122 := by decide +kernel
theorem kB_126 : (Int8.ofInt 126).toInt32 = 126 := by decide +kernel
theorem kS_128 : (Int16.ofInt 128).toInt32 = 128 := by decide +kernel
theorem kS_129 : (Int16.ofInt 129).toInt32 = 129 := by decide +kernel
theorem kS_130 : (Int16.ofInt 130).toInt32 = 130 := by decide +kernel
theorem kS_131 : (Int16.ofInt 131).toInt32 = 131 := by decide +kernel
theorem kS_138 : (Int16.ofInt 138).toInt32 = 138 := by decide +kernel
theorem kS_139 : (Int16.ofInt 139).toInt32 = 139 := by decide +kernel
theorem kS_140 : (Int16.ofInt 140).toInt32 = 140 := by decide +kernel
theorem kS_141 : (Int16.ofInt 141).toInt32 = 141 := by decide +kernel
theorem kS_142 : (Int16.ofInt 142).toInt32 = 142 := by decide +kernel
theorem kS_143 : (Int16.ofInt 143).toInt32 = 143 := by decide +kernel
theorem kS_144 : (Int16.ofInt 144).toInt32 = 144 := by decide +kernel
theorem kS_145 : (Int16.ofInt 145).toInt32 = 145 := by decide +kernel
theorem kS_146 : (Int16.ofInt 146).toInt32 = 146 := by decide +kernel
theorem kS_147 : (Int16.ofInt 147).toInt32 = 147 := by decide +kernel
theorem kS_150 : (Int16.ofInt 150).toInt32 = 150 := by decide +kernel
theorem kS_153 : (Int16.ofInt 153).toInt32 = 153 := by decide +kernel
theorem kS_195 : (Int16.ofInt 195).toInt32 = 195 := by decide +kernel
theorem kS_200 : (Int16.ofInt 200).toInt32 = 200 := by decide +kernel
theorem kS_1000 : (Int16.ofInt 1000).toInt32 = 1000 := by decide +kernel
theorem kS_9999 : (Int16.ofInt 9999).toInt32 = 9999 := by decide +kernel
theorem kS_10000 : (Int16.ofInt 10000).toInt32 = 10000 := by decide +kernel
theorem kS_10147 : (Int16.ofInt 10147).toInt32 = 10147 := by decide +kernel
theorem tc_0 : Int32.toNatClampNeg 0 = 0 := by decide +kernel
theorem tc_1 : Int32.toNatClampNeg 1 = 1 := by decide +kernel
theorem tc_2 : Int32.toNatClampNeg 2 = 2 := by decide +kernel
theorem tc_3 : Int32.toNatClampNeg 3 = 3 := by decide +kernel
theorem tc_4 : Int32.toNatClampNeg 4 = 4 := by decide +kernel
theorem tc_5 : Int32.toNatClampNeg 5 = 5 := by decide +kernel
theorem tc_6 : Int32.toNatClampNeg 6 = 6 := by decide +kernel
theorem tc_7 : Int32.toNatClampNeg 7 = 7 := by decide +kernel
def LY0 : List Shp := [.inr (0, [(2, 1), (2, 2), (0, 0), (0, 0), (0, 0)]), .inl (1, 8), .inl (3, 8)]
theorem LY0_0 : (LY0)[0]? = some (.inr (0, [(2, 1), (2, 2), (0, 0), (0, 0), (0, 0)])) := rfl
theorem LY0_1 : (LY0)[1]? = some (.inl (1, 8)) := rfl
theorem LY0_2 : (LY0)[2]? = some (.inl (3, 8)) := rfl
def LY1 : List Shp := [.inr (0, [(2, 1), (2, 2), (0, 0), (0, 0), (0, 0)]), .inl (1, 8), .inl (3, 8), .inr (0, [(2, 4), (2, 5), (0, 0), (0, 0), (0, 0)]), .inl (1, 8), .inl (3, 8)]
theorem LY1_0 : (LY1)[0]? = some (.inr (0, [(2, 1), (2, 2), (0, 0), (0, 0), (0, 0)])) := rfl
theorem LY1_1 : (LY1)[1]? = some (.inl (1, 8)) := rfl
theorem LY1_2 : (LY1)[2]? = some (.inl (3, 8)) := rfl
theorem LY1_3 : (LY1)[3]? = some (.inr (0, [(2, 4), (2, 5), (0, 0), (0, 0), (0, 0)])) := rfl
theorem LY1_4 : (LY1)[4]? = some (.inl (1, 8)) := rfl
theorem LY1_5 : (LY1)[5]? = some (.inl (3, 8)) := rfl
def LY2 : List Shp := [.inr (6, [(2, 1), (2, 2), (2, 3), (2, 4), (0, 0), (2, 5), (2, 6), (2, 7), (2, 8), (2, 9), (2, 10), (2, 11), (2, 12), (0, 0), (0, 0), (0, 0), (0, 0), (0, 0)]), .inl (2, 5), .inl (2, 5), .inl (1, 10), .inl (1, 12), .inl (1, 5), .inl (1, 5), .inl (1, 5), .inl (1, 5), .inl (1, 5), .inl (1, 5), .inl (1, 5), .inr (1, [(2, 13), (2, 14), (0, 0), (0, 0), (0, 0)]), .inl (1, 1000), .inl (1, 32)]
theorem LY2_0 : (LY2)[0]? = some (.inr (6, [(2, 1), (2, 2), (2, 3), (2, 4), (0, 0), (2, 5), (2, 6), (2, 7), (2, 8), (2, 9), (2, 10), (2, 11), (2, 12), (0, 0), (0, 0), (0, 0), (0, 0), (0, 0)])) := rfl
theorem LY2_1 : (LY2)[1]? = some (.inl (2, 5)) := rfl
theorem LY2_2 : (LY2)[2]? = some (.inl (2, 5)) := rfl
theorem LY2_3 : (LY2)[3]? = some (.inl (1, 10)) := rfl
theorem LY2_4 : (LY2)[4]? = some (.inl (1, 12)) := rfl
theorem LY2_5 : (LY2)[5]? = some (.inl (1, 5)) := rfl
theorem LY2_6 : (LY2)[6]? = some (.inl (1, 5)) := rfl
theorem LY2_7 : (LY2)[7]? = some (.inl (1, 5)) := rfl
theorem LY2_8 : (LY2)[8]? = some (.inl (1, 5)) := rfl
theorem LY2_9 : (LY2)[9]? = some (.inl (1, 5)) := rfl
theorem LY2_10 : (LY2)[10]? = some (.inl (1, 5)) := rfl
theorem LY2_11 : (LY2)[11]? = some (.inl (1, 5)) := rfl
theorem LY2_12 : (LY2)[12]? = some (.inr (1, [(2, 13), (2, 14), (0, 0), (0, 0), (0, 0)])) := rfl
theorem LY2_13 : (LY2)[13]? = some (.inl (1, 1000)) := rfl
theorem LY2_14 : (LY2)[14]? = some (.inl (1, 32)) := rfl
def LY3 : List Shp := [.inr (0, [(2, 1), (2, 2), (0, 0), (0, 0), (0, 0)]), .inl (1, 8), .inl (3, 8), .inr (6, [(2, 4), (2, 5), (2, 6), (2, 7), (0, 0), (2, 8), (2, 9), (2, 10), (2, 11), (2, 12), (2, 13), (2, 14), (2, 15), (0, 0), (0, 0), (0, 0), (0, 0), (0, 0)]), .inl (2, 5), .inl (2, 5), .inl (1, 10), .inl (1, 12), .inl (1, 5), .inl (1, 5), .inl (1, 5), .inl (1, 5), .inl (1, 5), .inl (1, 5), .inl (1, 5), .inr (1, [(2, 16), (2, 17), (0, 0), (0, 0), (0, 0)]), .inl (1, 1000), .inl (1, 32)]
theorem LY3_0 : (LY3)[0]? = some (.inr (0, [(2, 1), (2, 2), (0, 0), (0, 0), (0, 0)])) := rfl
theorem LY3_1 : (LY3)[1]? = some (.inl (1, 8)) := rfl
theorem LY3_2 : (LY3)[2]? = some (.inl (3, 8)) := rfl
theorem LY3_3 : (LY3)[3]? = some (.inr (6, [(2, 4), (2, 5), (2, 6), (2, 7), (0, 0), (2, 8), (2, 9), (2, 10), (2, 11), (2, 12), (2, 13), (2, 14), (2, 15), (0, 0), (0, 0), (0, 0), (0, 0), (0, 0)])) := rfl
theorem LY3_4 : (LY3)[4]? = some (.inl (2, 5)) := rfl
theorem LY3_5 : (LY3)[5]? = some (.inl (2, 5)) := rfl
theorem LY3_6 : (LY3)[6]? = some (.inl (1, 10)) := rfl
theorem LY3_7 : (LY3)[7]? = some (.inl (1, 12)) := rfl
theorem LY3_8 : (LY3)[8]? = some (.inl (1, 5)) := rfl
theorem LY3_9 : (LY3)[9]? = some (.inl (1, 5)) := rfl
theorem LY3_10 : (LY3)[10]? = some (.inl (1, 5)) := rfl
theorem LY3_11 : (LY3)[11]? = some (.inl (1, 5)) := rfl
theorem LY3_12 : (LY3)[12]? = some (.inl (1, 5)) := rfl
theorem LY3_13 : (LY3)[13]? = some (.inl (1, 5)) := rfl
theorem LY3_14 : (LY3)[14]? = some (.inl (1, 5)) := rfl
theorem LY3_15 : (LY3)[15]? = some (.inr (1, [(2, 16), (2, 17), (0, 0), (0, 0), (0, 0)])) := rfl
theorem LY3_16 : (LY3)[16]? = some (.inl (1, 1000)) := rfl
theorem LY3_17 : (LY3)[17]? = some (.inl (1, 32)) := rfl
def LY4 : List Shp := []
def LY5 : List Shp := [.inr (5, [(2, 1), (2, 2), (0, 0), (0, 0), (0, 0), (1, 0), (0, 0), (0, 0), (0, 0), (0, 0)]), .inl (0, 1000), .inl (2, 26)]
theorem LY5_0 : (LY5)[0]? = some (.inr (5, [(2, 1), (2, 2), (0, 0), (0, 0), (0, 0), (1, 0), (0, 0), (0, 0), (0, 0), (0, 0)])) := rfl
theorem LY5_1 : (LY5)[1]? = some (.inl (0, 1000)) := rfl
theorem LY5_2 : (LY5)[2]? = some (.inl (2, 26)) := rfl
def LY6 : List Shp := [.inr (1, [(2, 1), (2, 2), (0, 0), (0, 0), (0, 0)]), .inl (1, 1000), .inl (1, 32)]
theorem LY6_0 : (LY6)[0]? = some (.inr (1, [(2, 1), (2, 2), (0, 0), (0, 0), (0, 0)])) := rfl
theorem LY6_1 : (LY6)[1]? = some (.inl (1, 1000)) := rfl
theorem LY6_2 : (LY6)[2]? = some (.inl (1, 32)) := rfl
def LY7 : List Shp := [.inr (1, [(2, 1), (2, 2), (0, 0), (0, 0), (0, 0)]), .inl (1, 1000), .inl (1, 32), .inr (5, [(2, 4), (2, 5), (0, 0), (0, 0), (0, 0), (1, 0), (0, 0), (0, 0), (0, 0), (0, 0)]), .inl (0, 1000), .inl (2, 26)]
theorem LY7_0 : (LY7)[0]? = some (.inr (1, [(2, 1), (2, 2), (0, 0), (0, 0), (0, 0)])) := rfl
theorem LY7_1 : (LY7)[1]? = some (.inl (1, 1000)) := rfl
theorem LY7_2 : (LY7)[2]? = some (.inl (1, 32)) := rfl
theorem LY7_3 : (LY7)[3]? = some (.inr (5, [(2, 4), (2, 5), (0, 0), (0, 0), (0, 0), (1, 0), (0, 0), (0, 0), (0, 0), (0, 0)])) := rfl
theorem LY7_4 : (LY7)[4]? = some (.inl (0, 1000)) := rfl
theorem LY7_5 : (LY7)[5]? = some (.inl (2, 26)) := rfl
def LY8 : List Shp := [.inr (4, [(2, 1), (2, 2), (0, 0), (0, 0), (0, 0)]), .inl (1, 5), .inl (1, 5), .inr (6, [(2, 4), (2, 5), (2, 6), (2, 7), (0, 0), (2, 8), (2, 9), (2, 10), (2, 11), (2, 12), (2, 13), (2, 14), (2, 15), (0, 0), (0, 0), (0, 0), (0, 0), (0, 0)]), .inl (2, 5), .inl (2, 5), .inl (1, 10), .inl (1, 12), .inl (1, 5), .inl (1, 5), .inl (1, 5), .inl (1, 5), .inl (1, 5), .inl (1, 5), .inl (1, 5), .inr (1, [(2, 16), (2, 17), (0, 0), (0, 0), (0, 0)]), .inl (1, 1000), .inl (1, 32)]
theorem LY8_0 : (LY8)[0]? = some (.inr (4, [(2, 1), (2, 2), (0, 0), (0, 0), (0, 0)])) := rfl
theorem LY8_1 : (LY8)[1]? = some (.inl (1, 5)) := rfl
theorem LY8_2 : (LY8)[2]? = some (.inl (1, 5)) := rfl
theorem LY8_3 : (LY8)[3]? = some (.inr (6, [(2, 4), (2, 5), (2, 6), (2, 7), (0, 0), (2, 8), (2, 9), (2, 10), (2, 11), (2, 12), (2, 13), (2, 14), (2, 15), (0, 0), (0, 0), (0, 0), (0, 0), (0, 0)])) := rfl
theorem LY8_4 : (LY8)[4]? = some (.inl (2, 5)) := rfl
theorem LY8_5 : (LY8)[5]? = some (.inl (2, 5)) := rfl
theorem LY8_6 : (LY8)[6]? = some (.inl (1, 10)) := rfl
theorem LY8_7 : (LY8)[7]? = some (.inl (1, 12)) := rfl
theorem LY8_8 : (LY8)[8]? = some (.inl (1, 5)) := rfl
theorem LY8_9 : (LY8)[9]? = some (.inl (1, 5)) := rfl
theorem LY8_10 : (LY8)[10]? = some (.inl (1, 5)) := rfl
theorem LY8_11 : (LY8)[11]? = some (.inl (1, 5)) := rfl
theorem LY8_12 : (LY8)[12]? = some (.inl (1, 5)) := rfl
theorem LY8_13 : (LY8)[13]? = some (.inl (1, 5)) := rfl
theorem LY8_14 : (LY8)[14]? = some (.inl (1, 5)) := rfl
theorem LY8_15 : (LY8)[15]? = some (.inr (1, [(2, 16), (2, 17), (0, 0), (0, 0), (0, 0)])) := rfl
theorem LY8_16 : (LY8)[16]? = some (.inl (1, 1000)) := rfl
theorem LY8_17 : (LY8)[17]? = some (.inl (1, 32)) := rfl
def LY9 : List Shp := [.inr (2, [(2, 1), (2, 2), (2, 3), (0, 0), (0, 0), (0, 0), (2, 4), (0, 0)]), .inl (1, 5), .inl (1, 6), .inl (1, 10), .inl (1, 5), .inr (6, [(2, 6), (2, 7), (2, 8), (2, 9), (0, 0), (2, 10), (2, 11), (2, 12), (2, 13), (2, 14), (2, 15), (2, 16), (2, 17), (0, 0), (0, 0), (0, 0), (0, 0), (0, 0)]), .inl (2, 5), .inl (2, 5), .inl (1, 10), .inl (1, 12), .inl (1, 5), .inl (1, 5), .inl (1, 5), .inl (1, 5), .inl (1, 5), .inl (1, 5), .inl (1, 5), .inr (1, [(2, 18), (2, 19), (0, 0), (0, 0), (0, 0)]), .inl (1, 1000), .inl (1, 32), .inr (4, [(2, 21), (2, 22), (0, 0), (0, 0), (0, 0)]), .inl (1, 5), .inl (1, 5)]
theorem LY9_0 : (LY9)[0]? = some (.inr (2, [(2, 1), (2, 2), (2, 3), (0, 0), (0, 0), (0, 0), (2, 4), (0, 0)])) := rfl
theorem LY9_1 : (LY9)[1]? = some (.inl (1, 5)) := rfl
theorem LY9_2 : (LY9)[2]? = some (.inl (1, 6)) := rfl
theorem LY9_3 : (LY9)[3]? = some (.inl (1, 10)) := rfl
theorem LY9_4 : (LY9)[4]? = some (.inl (1, 5)) := rfl
theorem LY9_5 : (LY9)[5]? = some (.inr (6, [(2, 6), (2, 7), (2, 8), (2, 9), (0, 0), (2, 10), (2, 11), (2, 12), (2, 13), (2, 14), (2, 15), (2, 16), (2, 17), (0, 0), (0, 0), (0, 0), (0, 0), (0, 0)])) := rfl
theorem LY9_6 : (LY9)[6]? = some (.inl (2, 5)) := rfl
theorem LY9_7 : (LY9)[7]? = some (.inl (2, 5)) := rfl
theorem LY9_8 : (LY9)[8]? = some (.inl (1, 10)) := rfl
theorem LY9_9 : (LY9)[9]? = some (.inl (1, 12)) := rfl
theorem LY9_10 : (LY9)[10]? = some (.inl (1, 5)) := rfl
theorem LY9_11 : (LY9)[11]? = some (.inl (1, 5)) := rfl
theorem LY9_12 : (LY9)[12]? = some (.inl (1, 5)) := rfl
theorem LY9_13 : (LY9)[13]? = some (.inl (1, 5)) := rfl
theorem LY9_14 : (LY9)[14]? = some (.inl (1, 5)) := rfl
theorem LY9_15 : (LY9)[15]? = some (.inl (1, 5)) := rfl
theorem LY9_16 : (LY9)[16]? = some (.inl (1, 5)) := rfl
theorem LY9_17 : (LY9)[17]? = some (.inr (1, [(2, 18), (2, 19), (0, 0), (0, 0), (0, 0)])) := rfl
theorem LY9_18 : (LY9)[18]? = some (.inl (1, 1000)) := rfl
theorem LY9_19 : (LY9)[19]? = some (.inl (1, 32)) := rfl
theorem LY9_20 : (LY9)[20]? = some (.inr (4, [(2, 21), (2, 22), (0, 0), (0, 0), (0, 0)])) := rfl
theorem LY9_21 : (LY9)[21]? = some (.inl (1, 5)) := rfl
theorem LY9_22 : (LY9)[22]? = some (.inl (1, 5)) := rfl
def LY10 : List Shp := [.inr (2, [(2, 1), (2, 2), (2, 3), (0, 0), (0, 0), (0, 0), (2, 4), (0, 0)]), .inl (1, 5), .inl (1, 6), .inl (1, 10), .inl (1, 5)]
theorem LY10_0 : (LY10)[0]? = some (.inr (2, [(2, 1), (2, 2), (2, 3), (0, 0), (0, 0), (0, 0), (2, 4), (0, 0)])) := rfl
theorem LY10_1 : (LY10)[1]? = some (.inl (1, 5)) := rfl
theorem LY10_2 : (LY10)[2]? = some (.inl (1, 6)) := rfl
theorem LY10_3 : (LY10)[3]? = some (.inl (1, 10)) := rfl
theorem LY10_4 : (LY10)[4]? = some (.inl (1, 5)) := rfl
def LY11 : List Shp := [.inr (2, [(2, 1), (2, 2), (2, 3), (0, 0), (0, 0), (0, 0), (2, 4), (0, 0)]), .inl (1, 5), .inl (1, 6), .inl (1, 10), .inl (1, 5), .inr (6, [(2, 6), (2, 7), (2, 8), (2, 9), (0, 0), (2, 10), (2, 11), (2, 12), (2, 13), (2, 14), (2, 15), (2, 16), (2, 17), (0, 0), (0, 0), (0, 0), (0, 0), (0, 0)]), .inl (2, 5), .inl (2, 5), .inl (1, 10), .inl (1, 12), .inl (1, 5), .inl (1, 5), .inl (1, 5), .inl (1, 5), .inl (1, 5), .inl (1, 5), .inl (1, 5), .inr (1, [(2, 18), (2, 19), (0, 0), (0, 0), (0, 0)]), .inl (1, 1000), .inl (1, 32)]
theorem LY11_0 : (LY11)[0]? = some (.inr (2, [(2, 1), (2, 2), (2, 3), (0, 0), (0, 0), (0, 0), (2, 4), (0, 0)])) := rfl
theorem LY11_1 : (LY11)[1]? = some (.inl (1, 5)) := rfl
theorem LY11_2 : (LY11)[2]? = some (.inl (1, 6)) := rfl
theorem LY11_3 : (LY11)[3]? = some (.inl (1, 10)) := rfl
theorem LY11_4 : (LY11)[4]? = some (.inl (1, 5)) := rfl
theorem LY11_5 : (LY11)[5]? = some (.inr (6, [(2, 6), (2, 7), (2, 8), (2, 9), (0, 0), (2, 10), (2, 11), (2, 12), (2, 13), (2, 14), (2, 15), (2, 16), (2, 17), (0, 0), (0, 0), (0, 0), (0, 0), (0, 0)])) := rfl
theorem LY11_6 : (LY11)[6]? = some (.inl (2, 5)) := rfl
theorem LY11_7 : (LY11)[7]? = some (.inl (2, 5)) := rfl
theorem LY11_8 : (LY11)[8]? = some (.inl (1, 10)) := rfl
theorem LY11_9 : (LY11)[9]? = some (.inl (1, 12)) := rfl
theorem LY11_10 : (LY11)[10]? = some (.inl (1, 5)) := rfl
theorem LY11_11 : (LY11)[11]? = some (.inl (1, 5)) := rfl
theorem LY11_12 : (LY11)[12]? = some (.inl (1, 5)) := rfl
theorem LY11_13 : (LY11)[13]? = some (.inl (1, 5)) := rfl
theorem LY11_14 : (LY11)[14]? = some (.inl (1, 5)) := rfl
theorem LY11_15 : (LY11)[15]? = some (.inl (1, 5)) := rfl
theorem LY11_16 : (LY11)[16]? = some (.inl (1, 5)) := rfl
theorem LY11_17 : (LY11)[17]? = some (.inr (1, [(2, 18), (2, 19), (0, 0), (0, 0), (0, 0)])) := rfl
theorem LY11_18 : (LY11)[18]? = some (.inl (1, 1000)) := rfl
theorem LY11_19 : (LY11)[19]? = some (.inl (1, 32)) := rfl
def LY12 : List Shp := [.inr (4, [(2, 1), (2, 2), (0, 0), (0, 0), (0, 0)]), .inl (1, 5), .inl (1, 5), .inr (4, [(2, 4), (2, 5), (0, 0), (0, 0), (0, 0)]), .inl (1, 5), .inl (1, 5)]
theorem LY12_0 : (LY12)[0]? = some (.inr (4, [(2, 1), (2, 2), (0, 0), (0, 0), (0, 0)])) := rfl
theorem LY12_1 : (LY12)[1]? = some (.inl (1, 5)) := rfl
theorem LY12_2 : (LY12)[2]? = some (.inl (1, 5)) := rfl
theorem LY12_3 : (LY12)[3]? = some (.inr (4, [(2, 4), (2, 5), (0, 0), (0, 0), (0, 0)])) := rfl
theorem LY12_4 : (LY12)[4]? = some (.inl (1, 5)) := rfl
theorem LY12_5 : (LY12)[5]? = some (.inl (1, 5)) := rfl
def LY13 : List Shp := [.inr (7, [(2, 1), (2, 2), (2, 3), (0, 0)]), .inl (0, 40), .inl (0, 40), .inl (1, 40), .inr (7, [(2, 5), (2, 6), (2, 7), (0, 0)]), .inl (0, 40), .inl (0, 40), .inl (1, 40)]
theorem LY13_0 : (LY13)[0]? = some (.inr (7, [(2, 1), (2, 2), (2, 3), (0, 0)])) := rfl
theorem LY13_1 : (LY13)[1]? = some (.inl (0, 40)) := rfl
theorem LY13_2 : (LY13)[2]? = some (.inl (0, 40)) := rfl
theorem LY13_3 : (LY13)[3]? = some (.inl (1, 40)) := rfl
theorem LY13_4 : (LY13)[4]? = some (.inr (7, [(2, 5), (2, 6), (2, 7), (0, 0)])) := rfl
theorem LY13_5 : (LY13)[5]? = some (.inl (0, 40)) := rfl
theorem LY13_6 : (LY13)[6]? = some (.inl (0, 40)) := rfl
theorem LY13_7 : (LY13)[7]? = some (.inl (1, 40)) := rfl
def LY14 : List Shp := [.inr (3, [(2, 1), (2, 4), (2, 8), (0, 0)]), .inr (4, [(2, 2), (2, 3), (0, 0), (0, 0), (0, 0)]), .inl (1, 5), .inl (1, 5), .inr (7, [(2, 5), (2, 6), (2, 7), (0, 0)]), .inl (0, 40), .inl (0, 40), .inl (1, 40), .inr (0, [(2, 9), (2, 10), (0, 0), (0, 0), (0, 0)]), .inl (1, 8), .inl (3, 8), .inr (4, [(2, 12), (2, 13), (0, 0), (0, 0), (0, 0)]), .inl (1, 5), .inl (1, 5), .inr (7, [(2, 15), (2, 16), (2, 17), (0, 0)]), .inl (0, 40), .inl (0, 40), .inl (1, 40), .inr (0, [(2, 19), (2, 20), (0, 0), (0, 0), (0, 0)]), .inl (1, 8), .inl (3, 8)]
theorem LY14_0 : (LY14)[0]? = some (.inr (3, [(2, 1), (2, 4), (2, 8), (0, 0)])) := rfl
theorem LY14_1 : (LY14)[1]? = some (.inr (4, [(2, 2), (2, 3), (0, 0), (0, 0), (0, 0)])) := rfl
theorem LY14_2 : (LY14)[2]? = some (.inl (1, 5)) := rfl
theorem LY14_3 : (LY14)[3]? = some (.inl (1, 5)) := rfl
theorem LY14_4 : (LY14)[4]? = some (.inr (7, [(2, 5), (2, 6), (2, 7), (0, 0)])) := rfl
theorem LY14_5 : (LY14)[5]? = some (.inl (0, 40)) := rfl
theorem LY14_6 : (LY14)[6]? = some (.inl (0, 40)) := rfl
theorem LY14_7 : (LY14)[7]? = some (.inl (1, 40)) := rfl
theorem LY14_8 : (LY14)[8]? = some (.inr (0, [(2, 9), (2, 10), (0, 0), (0, 0), (0, 0)])) := rfl
theorem LY14_9 : (LY14)[9]? = some (.inl (1, 8)) := rfl
theorem LY14_10 : (LY14)[10]? = some (.inl (3, 8)) := rfl
theorem LY14_11 : (LY14)[11]? = some (.inr (4, [(2, 12), (2, 13), (0, 0), (0, 0), (0, 0)])) := rfl
theorem LY14_12 : (LY14)[12]? = some (.inl (1, 5)) := rfl
theorem LY14_13 : (LY14)[13]? = some (.inl (1, 5)) := rfl
theorem LY14_14 : (LY14)[14]? = some (.inr (7, [(2, 15), (2, 16), (2, 17), (0, 0)])) := rfl
theorem LY14_15 : (LY14)[15]? = some (.inl (0, 40)) := rfl
theorem LY14_16 : (LY14)[16]? = some (.inl (0, 40)) := rfl
theorem LY14_17 : (LY14)[17]? = some (.inl (1, 40)) := rfl
theorem LY14_18 : (LY14)[18]? = some (.inr (0, [(2, 19), (2, 20), (0, 0), (0, 0), (0, 0)])) := rfl
theorem LY14_19 : (LY14)[19]? = some (.inl (1, 8)) := rfl
theorem LY14_20 : (LY14)[20]? = some (.inl (3, 8)) := rfl
def LY15 : List Shp := [.inr (4, [(2, 1), (2, 2), (0, 0), (0, 0), (0, 0)]), .inl (1, 5), .inl (1, 5)]
theorem LY15_0 : (LY15)[0]? = some (.inr (4, [(2, 1), (2, 2), (0, 0), (0, 0), (0, 0)])) := rfl
theorem LY15_1 : (LY15)[1]? = some (.inl (1, 5)) := rfl
theorem LY15_2 : (LY15)[2]? = some (.inl (1, 5)) := rfl
def LY16 (n1 : Nat) : List Shp := [.inl (2, n1)]
theorem LY16_0 {n1 : Nat} : (LY16 n1)[0]? = some (.inl (2, n1)) := rfl
def LY17 : List Shp := [.inr (6, [(2, 1), (2, 2), (2, 3), (2, 4), (0, 0), (2, 5), (2, 6), (2, 7), (2, 8), (2, 9), (2, 10), (2, 11), (2, 12), (0, 0), (0, 0), (0, 0), (0, 0), (0, 0)]), .inl (2, 5), .inl (2, 5), .inl (1, 10), .inl (1, 12), .inl (1, 5), .inl (1, 5), .inl (1, 5), .inl (1, 5), .inl (1, 5), .inl (1, 5), .inl (1, 5), .inr (1, [(2, 13), (2, 14), (0, 0), (0, 0), (0, 0)]), .inl (1, 1000), .inl (1, 32), .inr (5, [(2, 16), (2, 17), (0, 0), (0, 0), (0, 0), (1, 0), (0, 0), (0, 0), (0, 0), (0, 0)]), .inl (0, 1000), .inl (2, 26)]
theorem LY17_0 : (LY17)[0]? = some (.inr (6, [(2, 1), (2, 2), (2, 3), (2, 4), (0, 0), (2, 5), (2, 6), (2, 7), (2, 8), (2, 9), (2, 10), (2, 11), (2, 12), (0, 0), (0, 0), (0, 0), (0, 0), (0, 0)])) := rfl
theorem LY17_1 : (LY17)[1]? = some (.inl (2, 5)) := rfl
theorem LY17_2 : (LY17)[2]? = some (.inl (2, 5)) := rfl
theorem LY17_3 : (LY17)[3]? = some (.inl (1, 10)) := rfl
theorem LY17_4 : (LY17)[4]? = some (.inl (1, 12)) := rfl
theorem LY17_5 : (LY17)[5]? = some (.inl (1, 5)) := rfl
theorem LY17_6 : (LY17)[6]? = some (.inl (1, 5)) := rfl
theorem LY17_7 : (LY17)[7]? = some (.inl (1, 5)) := rfl
theorem LY17_8 : (LY17)[8]? = some (.inl (1, 5)) := rfl
theorem LY17_9 : (LY17)[9]? = some (.inl (1, 5)) := rfl
theorem LY17_10 : (LY17)[10]? = some (.inl (1, 5)) := rfl
theorem LY17_11 : (LY17)[11]? = some (.inl (1, 5)) := rfl
theorem LY17_12 : (LY17)[12]? = some (.inr (1, [(2, 13), (2, 14), (0, 0), (0, 0), (0, 0)])) := rfl
theorem LY17_13 : (LY17)[13]? = some (.inl (1, 1000)) := rfl
theorem LY17_14 : (LY17)[14]? = some (.inl (1, 32)) := rfl
theorem LY17_15 : (LY17)[15]? = some (.inr (5, [(2, 16), (2, 17), (0, 0), (0, 0), (0, 0), (1, 0), (0, 0), (0, 0), (0, 0), (0, 0)])) := rfl
theorem LY17_16 : (LY17)[16]? = some (.inl (0, 1000)) := rfl
theorem LY17_17 : (LY17)[17]? = some (.inl (2, 26)) := rfl
def LY18 : List Shp := [.inr (7, [(2, 1), (2, 2), (2, 3), (0, 0)]), .inl (0, 40), .inl (0, 40), .inl (1, 40), .inr (5, [(2, 5), (2, 6), (0, 0), (0, 0), (0, 0), (1, 0), (0, 0), (0, 0), (0, 0), (0, 0)]), .inl (0, 1000), .inl (2, 26), .inr (6, [(2, 8), (2, 9), (2, 10), (2, 11), (0, 0), (2, 12), (2, 13), (2, 14), (2, 15), (2, 16), (2, 17), (2, 18), (2, 19), (0, 0), (0, 0), (0, 0), (0, 0), (0, 0)]), .inl (2, 5), .inl (2, 5), .inl (1, 10), .inl (1, 12), .inl (1, 5), .inl (1, 5), .inl (1, 5), .inl (1, 5), .inl (1, 5), .inl (1, 5), .inl (1, 5), .inr (1, [(2, 20), (2, 21), (0, 0), (0, 0), (0, 0)]), .inl (1, 1000), .inl (1, 32)]
theorem LY18_0 : (LY18)[0]? = some (.inr (7, [(2, 1), (2, 2), (2, 3), (0, 0)])) := rfl
theorem LY18_1 : (LY18)[1]? = some (.inl (0, 40)) := rfl
theorem LY18_2 : (LY18)[2]? = some (.inl (0, 40)) := rfl
theorem LY18_3 : (LY18)[3]? = some (.inl (1, 40)) := rfl
theorem LY18_4 : (LY18)[4]? = some (.inr (5, [(2, 5), (2, 6), (0, 0), (0, 0), (0, 0), (1, 0), (0, 0), (0, 0), (0, 0), (0, 0)])) := rfl
theorem LY18_5 : (LY18)[5]? = some (.inl (0, 1000)) := rfl
theorem LY18_6 : (LY18)[6]? = some (.inl (2, 26)) := rfl
theorem LY18_7 : (LY18)[7]? = some (.inr (6, [(2, 8), (2, 9), (2, 10), (2, 11), (0, 0), (2, 12), (2, 13), (2, 14), (2, 15), (2, 16), (2, 17), (2, 18), (2, 19), (0, 0), (0, 0), (0, 0), (0, 0), (0, 0)])) := rfl
theorem LY18_8 : (LY18)[8]? = some (.inl (2, 5)) := rfl
theorem LY18_9 : (LY18)[9]? = some (.inl (2, 5)) := rfl
theorem LY18_10 : (LY18)[10]? = some (.inl (1, 10)) := rfl
theorem LY18_11 : (LY18)[11]? = some (.inl (1, 12)) := rfl
theorem LY18_12 : (LY18)[12]? = some (.inl (1, 5)) := rfl
theorem LY18_13 : (LY18)[13]? = some (.inl (1, 5)) := rfl
theorem LY18_14 : (LY18)[14]? = some (.inl (1, 5)) := rfl
theorem LY18_15 : (LY18)[15]? = some (.inl (1, 5)) := rfl
theorem LY18_16 : (LY18)[16]? = some (.inl (1, 5)) := rfl
theorem LY18_17 : (LY18)[17]? = some (.inl (1, 5)) := rfl
theorem LY18_18 : (LY18)[18]? = some (.inl (1, 5)) := rfl
theorem LY18_19 : (LY18)[19]? = some (.inr (1, [(2, 20), (2, 21), (0, 0), (0, 0), (0, 0)])) := rfl
theorem LY18_20 : (LY18)[20]? = some (.inl (1, 1000)) := rfl
theorem LY18_21 : (LY18)[21]? = some (.inl (1, 32)) := rfl
def LY19 : List Shp := [.inr (7, [(2, 1), (2, 2), (2, 3), (0, 0)]), .inl (0, 40), .inl (0, 40), .inl (1, 40), .inr (6, [(2, 5), (2, 6), (2, 7), (2, 8), (0, 0), (2, 9), (2, 10), (2, 11), (2, 12), (2, 13), (2, 14), (2, 15), (2, 16), (0, 0), (0, 0), (0, 0), (0, 0), (0, 0)]), .inl (2, 5), .inl (2, 5), .inl (1, 10), .inl (1, 12), .inl (1, 5), .inl (1, 5), .inl (1, 5), .inl (1, 5), .inl (1, 5), .inl (1, 5), .inl (1, 5), .inr (1, [(2, 17), (2, 18), (0, 0), (0, 0), (0, 0)]), .inl (1, 1000), .inl (1, 32), .inr (4, [(2, 20), (2, 21), (0, 0), (0, 0), (0, 0)]), .inl (1, 5), .inl (1, 5)]
theorem LY19_0 : (LY19)[0]? = some (.inr (7, [(2, 1), (2, 2), (2, 3), (0, 0)])) := rfl
theorem LY19_1 : (LY19)[1]? = some (.inl (0, 40)) := rfl
theorem LY19_2 : (LY19)[2]? = some (.inl (0, 40)) := rfl
theorem LY19_3 : (LY19)[3]? = some (.inl (1, 40)) := rfl
theorem LY19_4 : (LY19)[4]? = some (.inr (6, [(2, 5), (2, 6), (2, 7), (2, 8), (0, 0), (2, 9), (2, 10), (2, 11), (2, 12), (2, 13), (2, 14), (2, 15), (2, 16), (0, 0), (0, 0), (0, 0), (0, 0), (0, 0)])) := rfl
theorem LY19_5 : (LY19)[5]? = some (.inl (2, 5)) := rfl
theorem LY19_6 : (LY19)[6]? = some (.inl (2, 5)) := rfl
theorem LY19_7 : (LY19)[7]? = some (.inl (1, 10)) := rfl
theorem LY19_8 : (LY19)[8]? = some (.inl (1, 12)) := rfl
theorem LY19_9 : (LY19)[9]? = some (.inl (1, 5)) := rfl
theorem LY19_10 : (LY19)[10]? = some (.inl (1, 5)) := rfl
theorem LY19_11 : (LY19)[11]? = some (.inl (1, 5)) := rfl
theorem LY19_12 : (LY19)[12]? = some (.inl (1, 5)) := rfl
theorem LY19_13 : (LY19)[13]? = some (.inl (1, 5)) := rfl
theorem LY19_14 : (LY19)[14]? = some (.inl (1, 5)) := rfl
theorem LY19_15 : (LY19)[15]? = some (.inl (1, 5)) := rfl
theorem LY19_16 : (LY19)[16]? = some (.inr (1, [(2, 17), (2, 18), (0, 0), (0, 0), (0, 0)])) := rfl
theorem LY19_17 : (LY19)[17]? = some (.inl (1, 1000)) := rfl
theorem LY19_18 : (LY19)[18]? = some (.inl (1, 32)) := rfl
theorem LY19_19 : (LY19)[19]? = some (.inr (4, [(2, 20), (2, 21), (0, 0), (0, 0), (0, 0)])) := rfl
theorem LY19_20 : (LY19)[20]? = some (.inl (1, 5)) := rfl
theorem LY19_21 : (LY19)[21]? = some (.inl (1, 5)) := rfl
def LY20 : List Shp := [.inr (8, [(2, 1), (2, 4), (2, 7), (2, 10), (2, 13), (2, 18), (2, 63), (2, 112), (2, 127), (2, 142), (2, 146), (0, 0), (0, 0), (1, 0)]), .inr (5, [(2, 2), (2, 3), (0, 0), (0, 0), (0, 0), (1, 0), (0, 0), (0, 0), (0, 0), (0, 0)]), .inl (0, 1000), .inl (2, 26), .inr (4, [(2, 5), (2, 6), (0, 0), (0, 0), (0, 0)]), .inl (1, 5), .inl (1, 5), .inr (4, [(2, 8), (2, 9), (0, 0), (0, 0), (0, 0)]), .inl (1, 5), .inl (1, 5), .inr (0, [(2, 11), (2, 12), (0, 0), (0, 0), (0, 0)]), .inl (1, 8), .inl (3, 8), .inr (2, [(2, 14), (2, 15), (2, 16), (0, 0), (0, 0), (0, 0), (2, 17), (0, 0)]), .inl (1, 5), .inl (1, 6), .inl (1, 10), .inl (1, 5), .inl (4, 4), .inr (3, [(2, 20), (2, 23), (2, 27), (0, 0)]), .inr (4, [(2, 21), (2, 22), (0, 0), (0, 0), (0, 0)]), .inl (1, 5), .inl (1, 5), .inr (7, [(2, 24), (2, 25), (2, 26), (0, 0)]), .inl (0, 40), .inl (0, 40), .inl (1, 40), .inr (0, [(2, 28), (2, 29), (0, 0), (0, 0), (0, 0)]), .inl (1, 8), .inl (3, 8), .inr (3, [(2, 31), (2, 34), (2, 38), (0, 0)]), .inr (4, [(2, 32), (2, 33), (0, 0), (0, 0), (0, 0)]), .inl (1, 5), .inl (1, 5), .inr (7, [(2, 35), (2, 36), (2, 37), (0, 0)]), .inl (0, 40), .inl (0, 40), .inl (1, 40), .inr (0, [(2, 39), (2, 40), (0, 0), (0, 0), (0, 0)]), .inl (1, 8), .inl (3, 8), .inr (3, [(2, 42), (2, 45), (2, 49), (0, 0)]), .inr (4, [(2, 43), (2, 44), (0, 0), (0, 0), (0, 0)]), .inl (1, 5), .inl (1, 5), .inr (7, [(2, 46), (2, 47), (2, 48), (0, 0)]), .inl (0, 40), .inl (0, 40), .inl (1, 40), .inr (0, [(2, 50), (2, 51), (0, 0), (0, 0), (0, 0)]), .inl (1, 8), .inl (3, 8), .inr (3, [(2, 53), (2, 56), (2, 60), (0, 0)]), .inr (4, [(2, 54), (2, 55), (0, 0), (0, 0), (0, 0)]), .inl (1, 5), .inl (1, 5), .inr (7, [(2, 57), (2, 58), (2, 59), (0, 0)]), .inl (0, 40), .inl (0, 40), .inl (1, 40), .inr (0, [(2, 61), (2, 62), (0, 0), (0, 0), (0, 0)]), .inl (1, 8), .inl (3, 8), .inl (5, 16), .inr (4, [(2, 65), (2, 66), (0, 0), (0, 0), (0, 0)]), .inl (1, 5), .inl (1, 5), .inr (4, [(2, 68), (2, 69), (0, 0), (0, 0), (0, 0)]), .inl (1, 5), .inl (1, 5), .inr (4, [(2, 71), (2, 72), (0, 0), (0, 0), (0, 0)]), .inl (1, 5), .inl (1, 5), .inr (4, [(2, 74), (2, 75), (0, 0), (0, 0), (0, 0)]), .inl (1, 5), .inl (1, 5), .inr (4, [(2, 77), (2, 78), (0, 0), (0, 0), (0, 0)]), .inl (1, 5), .inl (1, 5), .inr (4, [(2, 80), (2, 81), (0, 0), (0, 0), (0, 0)]), .inl (1, 5), .inl (1, 5), .inr (4, [(2, 83), (2, 84), (0, 0), (0, 0), (0, 0)]), .inl (1, 5), .inl (1, 5), .inr (4, [(2, 86), (2, 87), (0, 0), (0, 0), (0, 0)]), .inl (1, 5), .inl (1, 5), .inr (4, [(2, 89), (2, 90), (0, 0), (0, 0), (0, 0)]), .inl (1, 5), .inl (1, 5), .inr (4, [(2, 92), (2, 93), (0, 0), (0, 0), (0, 0)]), .inl (1, 5), .inl (1, 5), .inr (4, [(2, 95), (2, 96), (0, 0), (0, 0), (0, 0)]), .inl (1, 5), .inl (1, 5), .inr (4, [(2, 98), (2, 99), (0, 0), (0, 0), (0, 0)]), .inl (1, 5), .inl (1, 5), .inr (4, [(2, 101), (2, 102), (0, 0), (0, 0), (0, 0)]), .inl (1, 5), .inl (1, 5), .inr (4, [(2, 104), (2, 105), (0, 0), (0, 0), (0, 0)]), .inl (1, 5), .inl (1, 5), .inr (4, [(2, 107), (2, 108), (0, 0), (0, 0), (0, 0)]), .inl (1, 5), .inl (1, 5), .inr (4, [(2, 110), (2, 111), (0, 0), (0, 0), (0, 0)]), .inl (1, 5), .inl (1, 5), .inr (6, [(2, 113), (2, 114), (2, 115), (2, 116), (0, 0), (2, 117), (2, 118), (2, 119), (2, 120), (2, 121), (2, 122), (2, 123), (2, 124), (0, 0), (0, 0), (0, 0), (0, 0), (0, 0)]), .inl (2, 5), .inl (2, 5), .inl (1, 10), .inl (1, 12), .inl (1, 5), .inl (1, 5), .inl (1, 5), .inl (1, 5), .inl (1, 5), .inl (1, 5), .inl (1, 5), .inr (1, [(2, 125), (2, 126), (0, 0), (0, 0), (0, 0)]), .inl (1, 1000), .inl (1, 32), .inr (6, [(2, 128), (2, 129), (2, 130), (2, 131), (0, 0), (2, 132), (2, 133), (2, 134), (2, 135), (2, 136), (2, 137), (2, 138), (2, 139), (0, 0), (0, 0), (0, 0), (0, 0), (0, 0)]), .inl (2, 5), .inl (2, 5), .inl (1, 10), .inl (1, 12), .inl (1, 5), .inl (1, 5), .inl (1, 5), .inl (1, 5), .inl (1, 5), .inl (1, 5), .inl (1, 5), .inr (1, [(2, 140), (2, 141), (0, 0), (0, 0), (0, 0)]), .inl (1, 1000), .inl (1, 32), .inr (7, [(2, 143), (2, 144), (2, 145), (0, 0)]), .inl (0, 40), .inl (0, 40), .inl (1, 40), .inr (7, [(2, 147), (2, 148), (2, 149), (0, 0)]), .inl (0, 40), .inl (0, 40), .inl (1, 40)]
theorem LY20_0 : (LY20)[0]? = some (.inr (8, [(2, 1), (2, 4), (2, 7), (2, 10), (2, 13), (2, 18), (2, 63), (2, 112), (2, 127), (2, 142), (2, 146), (0, 0), (0, 0), (1, 0)])) := rfl
theorem LY20_1 : (LY20)[1]? = some (.inr (5, [(2, 2), (2, 3), (0, 0), (0, 0), (0, 0), (1, 0), (0, 0), (0, 0), (0, 0), (0, 0)])) := rfl
theorem LY20_2 : (LY20)[2]? = some (.inl (0, 1000)) := rfl
theorem LY20_3 : (LY20)[3]? = some (.inl (2, 26)) := rfl
theorem LY20_4 : (LY20)[4]? = some (.inr (4, [(2, 5), (2, 6), (0, 0), (0, 0), (0, 0)])) := rfl
theorem LY20_5 : (LY20)[5]? = some (.inl (1, 5)) := rfl
theorem LY20_6 : (LY20)[6]? = some (.inl (1, 5)) := rfl
theorem LY20_7 : (LY20)[7]? = some (.inr (4, [(2, 8), (2, 9), (0, 0), (0, 0), (0, 0)])) := rfl
theorem LY20_8 : (LY20)[8]? = some (.inl (1, 5)) := rfl
theorem LY20_9 : (LY20)[9]? = some (.inl (1, 5)) := rfl
theorem LY20_10 : (LY20)[10]? = some (.inr (0, [(2, 11), (2, 12), (0, 0), (0, 0), (0, 0)])) := rfl
theorem LY20_11 : (LY20)[11]? = some (.inl (1, 8)) := rfl
theorem LY20_12 : (LY20)[12]? = some (.inl (3, 8)) := rfl
theorem LY20_13 : (LY20)[13]? = some (.inr (2, [(2, 14), (2, 15), (2, 16), (0, 0), (0, 0), (0, 0), (2, 17), (0, 0)])) := rfl
theorem LY20_14 : (LY20)[14]? = some (.inl (1, 5)) := rfl
theorem LY20_15 : (LY20)[15]? = some (.inl (1, 6)) := rfl
theorem LY20_16 : (LY20)[16]? = some (.inl (1, 10)) := rfl
theorem LY20_17 : (LY20)[17]? = some (.inl (1, 5)) := rfl
theorem LY20_18 : (LY20)[18]? = some (.inl (4, 4)) := rfl
theorem LY20_19 : (LY20)[19]? = some (.inr (3, [(2, 20), (2, 23), (2, 27), (0, 0)])) := rfl
theorem LY20_20 : (LY20)[20]? = some (.inr (4, [(2, 21), (2, 22), (0, 0), (0, 0), (0, 0)])) := rfl
theorem LY20_21 : (LY20)[21]? = some (.inl (1, 5)) := rfl
theorem LY20_22 : (LY20)[22]? = some (.inl (1, 5)) := rfl
theorem LY20_23 : (LY20)[23]? = some (.inr (7, [(2, 24), (2, 25), (2, 26), (0, 0)])) := rfl
theorem LY20_24 : (LY20)[24]? = some (.inl (0, 40)) := rfl
theorem LY20_25 : (LY20)[25]? = some (.inl (0, 40)) := rfl
theorem LY20_26 : (LY20)[26]? = some (.inl (1, 40)) := rfl
theorem LY20_27 : (LY20)[27]? = some (.inr (0, [(2, 28), (2, 29), (0, 0), (0, 0), (0, 0)])) := rfl
theorem LY20_28 : (LY20)[28]? = some (.inl (1, 8)) := rfl
theorem LY20_29 : (LY20)[29]? = some (.inl (3, 8)) := rfl
theorem LY20_30 : (LY20)[30]? = some (.inr (3, [(2, 31), (2, 34), (2, 38), (0, 0)])) := rfl
theorem LY20_31 : (LY20)[31]? = some (.inr (4, [(2, 32), (2, 33), (0, 0), (0, 0), (0, 0)])) := rfl
theorem LY20_32 : (LY20)[32]? = some (.inl (1, 5)) := rfl
theorem LY20_33 : (LY20)[33]? = some (.inl (1, 5)) := rfl
theorem LY20_34 : (LY20)[34]? = some (.inr (7, [(2, 35), (2, 36), (2, 37), (0, 0)])) := rfl
theorem LY20_35 : (LY20)[35]? = some (.inl (0, 40)) := rfl
theorem LY20_36 : (LY20)[36]? = some (.inl (0, 40)) := rfl
theorem LY20_37 : (LY20)[37]? = some (.inl (1, 40)) := rfl
theorem LY20_38 : (LY20)[38]? = some (.inr (0, [(2, 39), (2, 40), (0, 0), (0, 0), (0, 0)])) := rfl
theorem LY20_39 : (LY20)[39]? = some (.inl (1, 8)) := rfl
theorem LY20_40 : (LY20)[40]? = some (.inl (3, 8)) := rfl
theorem LY20_41 : (LY20)[41]? = some (.inr (3, [(2, 42), (2, 45), (2, 49), (0, 0)])) := rfl
theorem LY20_42 : (LY20)[42]? = some (.inr (4, [(2, 43), (2, 44), (0, 0), (0, 0), (0, 0)])) := rfl
theorem LY20_43 : (LY20)[43]? = some (.inl (1, 5)) := rfl
theorem LY20_44 : (LY20)[44]? = some (.inl (1, 5)) := rfl
theorem LY20_45 : (LY20)[45]? = some (.inr (7, [(2, 46), (2, 47), (2, 48), (0, 0)])) := rfl
theorem LY20_46 : (LY20)[46]? = some (.inl (0, 40)) := rfl
theorem LY20_47 : (LY20)[47]? = some (.inl (0, 40)) := rfl
theorem LY20_48 : (LY20)[48]? = some (.inl (1, 40)) := rfl
theorem LY20_49 : (LY20)[49]? = some (.inr (0, [(2, 50), (2, 51), (0, 0), (0, 0), (0, 0)])) := rfl
theorem LY20_50 : (LY20)[50]? = some (.inl (1, 8)) := rfl
theorem LY20_51 : (LY20)[51]? = some (.inl (3, 8)) := rfl
theorem LY20_52 : (LY20)[52]? = some (.inr (3, [(2, 53), (2, 56), (2, 60), (0, 0)])) := rfl
theorem LY20_53 : (LY20)[53]? = some (.inr (4, [(2, 54), (2, 55), (0, 0), (0, 0), (0, 0)])) := rfl
theorem LY20_54 : (LY20)[54]? = some (.inl (1, 5)) := rfl
theorem LY20_55 : (LY20)[55]? = some (.inl (1, 5)) := rfl
theorem LY20_56 : (LY20)[56]? = some (.inr (7, [(2, 57), (2, 58), (2, 59), (0, 0)])) := rfl
theorem LY20_57 : (LY20)[57]? = some (.inl (0, 40)) := rfl
theorem LY20_58 : (LY20)[58]? = some (.inl (0, 40)) := rfl
theorem LY20_59 : (LY20)[59]? = some (.inl (1, 40)) := rfl
theorem LY20_60 : (LY20)[60]? = some (.inr (0, [(2, 61), (2, 62), (0, 0), (0, 0), (0, 0)])) := rfl
theorem LY20_61 : (LY20)[61]? = some (.inl (1, 8)) := rfl
theorem LY20_62 : (LY20)[62]? = some (.inl (3, 8)) := rfl
theorem LY20_63 : (LY20)[63]? = some (.inl (5, 16)) := rfl
theorem LY20_64 : (LY20)[64]? = some (.inr (4, [(2, 65), (2, 66), (0, 0), (0, 0), (0, 0)])) := rfl
theorem LY20_65 : (LY20)[65]? = some (.inl (1, 5)) := rfl
theorem LY20_66 : (LY20)[66]? = some (.inl (1, 5)) := rfl
theorem LY20_67 : (LY20)[67]? = some (.inr (4, [(2, 68), (2, 69), (0, 0), (0, 0), (0, 0)])) := rfl
theorem LY20_68 : (LY20)[68]? = some (.inl (1, 5)) := rfl
theorem LY20_69 : (LY20)[69]? = some (.inl (1, 5)) := rfl
theorem LY20_70 : (LY20)[70]? = some (.inr (4, [(2, 71), (2, 72), (0, 0), (0, 0), (0, 0)])) := rfl
theorem LY20_71 : (LY20)[71]? = some (.inl (1, 5)) := rfl
theorem LY20_72 : (LY20)[72]? = some (.inl (1, 5)) := rfl
theorem LY20_73 : (LY20)[73]? = some (.inr (4, [(2, 74), (2, 75), (0, 0), (0, 0), (0, 0)])) := rfl
theorem LY20_74 : (LY20)[74]? = some (.inl (1, 5)) := rfl
theorem LY20_75 : (LY20)[75]? = some (.inl (1, 5)) := rfl
theorem LY20_76 : (LY20)[76]? = some (.inr (4, [(2, 77), (2, 78), (0, 0), (0, 0), (0, 0)])) := rfl
theorem LY20_77 : (LY20)[77]? = some (.inl (1, 5)) := rfl
theorem LY20_78 : (LY20)[78]? = some (.inl (1, 5)) := rfl
theorem LY20_79 : (LY20)[79]? = some (.inr (4, [(2, 80), (2, 81), (0, 0), (0, 0), (0, 0)])) := rfl
theorem LY20_80 : (LY20)[80]? = some (.inl (1, 5)) := rfl
theorem LY20_81 : (LY20)[81]? = some (.inl (1, 5)) := rfl
theorem LY20_82 : (LY20)[82]? = some (.inr (4, [(2, 83), (2, 84), (0, 0), (0, 0), (0, 0)])) := rfl
theorem LY20_83 : (LY20)[83]? = some (.inl (1, 5)) := rfl
theorem LY20_84 : (LY20)[84]? = some (.inl (1, 5)) := rfl
theorem LY20_85 : (LY20)[85]? = some (.inr (4, [(2, 86), (2, 87), (0, 0), (0, 0), (0, 0)])) := rfl
theorem LY20_86 : (LY20)[86]? = some (.inl (1, 5)) := rfl
theorem LY20_87 : (LY20)[87]? = some (.inl (1, 5)) := rfl
theorem LY20_88 : (LY20)[88]? = some (.inr (4, [(2, 89), (2, 90), (0, 0), (0, 0), (0, 0)])) := rfl
theorem LY20_89 : (LY20)[89]? = some (.inl (1, 5)) := rfl
theorem LY20_90 : (LY20)[90]? = some (.inl (1, 5)) := rfl
theorem LY20_91 : (LY20)[91]? = some (.inr (4, [(2, 92), (2, 93), (0, 0), (0, 0), (0, 0)])) := rfl
theorem LY20_92 : (LY20)[92]? = some (.inl (1, 5)) := rfl
theorem LY20_93 : (LY20)[93]? = some (.inl (1, 5)) := rfl
theorem LY20_94 : (LY20)[94]? = some (.inr (4, [(2, 95), (2, 96), (0, 0), (0, 0), (0, 0)])) := rfl
theorem LY20_95 : (LY20)[95]? = some (.inl (1, 5)) := rfl
theorem LY20_96 : (LY20)[96]? = some (.inl (1, 5)) := rfl
theorem LY20_97 : (LY20)[97]? = some (.inr (4, [(2, 98), (2, 99), (0, 0), (0, 0), (0, 0)])) := rfl
theorem LY20_98 : (LY20)[98]? = some (.inl (1, 5)) := rfl
theorem LY20_99 : (LY20)[99]? = some (.inl (1, 5)) := rfl
theorem LY20_100 : (LY20)[100]? = some (.inr (4, [(2, 101), (2, 102), (0, 0), (0, 0), (0, 0)])) := rfl
theorem LY20_101 : (LY20)[101]? = some (.inl (1, 5)) := rfl
theorem LY20_102 : (LY20)[102]? = some (.inl (1, 5)) := rfl
theorem LY20_103 : (LY20)[103]? = some (.inr (4, [(2, 104), (2, 105), (0, 0), (0, 0), (0, 0)])) := rfl
theorem LY20_104 : (LY20)[104]? = some (.inl (1, 5)) := rfl
theorem LY20_105 : (LY20)[105]? = some (.inl (1, 5)) := rfl
theorem LY20_106 : (LY20)[106]? = some (.inr (4, [(2, 107), (2, 108), (0, 0), (0, 0), (0, 0)])) := rfl
theorem LY20_107 : (LY20)[107]? = some (.inl (1, 5)) := rfl
theorem LY20_108 : (LY20)[108]? = some (.inl (1, 5)) := rfl
theorem LY20_109 : (LY20)[109]? = some (.inr (4, [(2, 110), (2, 111), (0, 0), (0, 0), (0, 0)])) := rfl
theorem LY20_110 : (LY20)[110]? = some (.inl (1, 5)) := rfl
theorem LY20_111 : (LY20)[111]? = some (.inl (1, 5)) := rfl
theorem LY20_112 : (LY20)[112]? = some (.inr (6, [(2, 113), (2, 114), (2, 115), (2, 116), (0, 0), (2, 117), (2, 118), (2, 119), (2, 120), (2, 121), (2, 122), (2, 123), (2, 124), (0, 0), (0, 0), (0, 0), (0, 0), (0, 0)])) := rfl
theorem LY20_113 : (LY20)[113]? = some (.inl (2, 5)) := rfl
theorem LY20_114 : (LY20)[114]? = some (.inl (2, 5)) := rfl
theorem LY20_115 : (LY20)[115]? = some (.inl (1, 10)) := rfl
theorem LY20_116 : (LY20)[116]? = some (.inl (1, 12)) := rfl
theorem LY20_117 : (LY20)[117]? = some (.inl (1, 5)) := rfl
theorem LY20_118 : (LY20)[118]? = some (.inl (1, 5)) := rfl
theorem LY20_119 : (LY20)[119]? = some (.inl (1, 5)) := rfl
theorem LY20_120 : (LY20)[120]? = some (.inl (1, 5)) := rfl
theorem LY20_121 : (LY20)[121]? = some (.inl (1, 5)) := rfl
theorem LY20_122 : (LY20)[122]? = some (.inl (1, 5)) := rfl
theorem LY20_123 : (LY20)[123]? = some (.inl (1, 5)) := rfl
theorem LY20_124 : (LY20)[124]? = some (.inr (1, [(2, 125), (2, 126), (0, 0), (0, 0), (0, 0)])) := rfl
theorem LY20_125 : (LY20)[125]? = some (.inl (1, 1000)) := rfl
theorem LY20_126 : (LY20)[126]? = some (.inl (1, 32)) := rfl
theorem LY20_127 : (LY20)[127]? = some (.inr (6, [(2, 128), (2, 129), (2, 130), (2, 131), (0, 0), (2, 132), (2, 133), (2, 134), (2, 135), (2, 136), (2, 137), (2, 138), (2, 139), (0, 0), (0, 0), (0, 0), (0, 0), (0, 0)])) := rfl
theorem LY20_128 : (LY20)[128]? = some (.inl (2, 5)) := rfl
theorem LY20_129 : (LY20)[129]? = some (.inl (2, 5)) := rfl
theorem LY20_130 : (LY20)[130]? = some (.inl (1, 10)) := rfl
theorem LY20_131 : (LY20)[131]? = some (.inl (1, 12)) := rfl
theorem LY20_132 : (LY20)[132]? = some (.inl (1, 5)) := rfl
theorem LY20_133 : (LY20)[133]? = some (.inl (1, 5)) := rfl
theorem LY20_134 : (LY20)[134]? = some (.inl (1, 5)) := rfl
theorem LY20_135 : (LY20)[135]? = some (.inl (1, 5)) := rfl
theorem LY20_136 : (LY20)[136]? = some (.inl (1, 5)) := rfl
theorem LY20_137 : (LY20)[137]? = some (.inl (1, 5)) := rfl
theorem LY20_138 : (LY20)[138]? = some (.inl (1, 5)) := rfl
theorem LY20_139 : (LY20)[139]? = some (.inr (1, [(2, 140), (2, 141), (0, 0), (0, 0), (0, 0)])) := rfl
theorem LY20_140 : (LY20)[140]? = some (.inl (1, 1000)) := rfl
theorem LY20_141 : (LY20)[141]? = some (.inl (1, 32)) := rfl
theorem LY20_142 : (LY20)[142]? = some (.inr (7, [(2, 143), (2, 144), (2, 145), (0, 0)])) := rfl
theorem LY20_143 : (LY20)[143]? = some (.inl (0, 40)) := rfl
theorem LY20_144 : (LY20)[144]? = some (.inl (0, 40)) := rfl
theorem LY20_145 : (LY20)[145]? = some (.inl (1, 40)) := rfl
theorem LY20_146 : (LY20)[146]? = some (.inr (7, [(2, 147), (2, 148), (2, 149), (0, 0)])) := rfl
theorem LY20_147 : (LY20)[147]? = some (.inl (0, 40)) := rfl
theorem LY20_148 : (LY20)[148]? = some (.inl (0, 40)) := rfl
theorem LY20_149 : (LY20)[149]? = some (.inl (1, 40)) := rfl
def LY21 : List Shp := [.inr (9, [(0, 0), (0, 0), (2, 1), (0, 0), (0, 0), (0, 0), (0, 0), (1, 0), (0, 0), (0, 0), (2, 2), (2, 3), (2, 4), (2, 5), (2, 6), (2, 7), (2, 8), (2, 9), (2, 10), (2, 11), (2, 12), (2, 13), (2, 14), (2, 15), (0, 0), (0, 0), (2, 16), (2, 17), (2, 18), (2, 19), (2, 20), (2, 21), (2, 22), (2, 23), (2, 24), (2, 25), (2, 26), (2, 27), (0, 0), (1, 0), (2, 28), (2, 29), (2, 30), (2, 31), (2, 32), (2, 33), (2, 34), (2, 35), (2, 36), (2, 37), (2, 38), (2, 39), (2, 40), (0, 0), (0, 0), (0, 0), (2, 41), (2, 42), (0, 0), (0, 0), (0, 0), (1, 0)]), .inl (1, 1000), .inl (1, 8), .inl (2, 10), .inl (2, 10), .inl (1, 10), .inl (1, 10), .inl (1, 10), .inl (1, 10), .inl (1, 10), .inl (1, 10), .inl (1, 20), .inl (1, 24), .inl (1, 2), .inl (1, 2), .inl (1, 2000), .inl (1, 7), .inl (3, 7), .inl (1, 7), .inl (1, 7), .inl (1, 7), .inl (1, 7), .inl (1, 7), .inl (1, 7), .inl (1, 7), .inl (1, 7), .inl (1, 7), .inl (1, 20), .inl (1, 6), .inl (1, 240), .inl (1, 240), .inl (1, 240), .inl (1, 5), .inl (1, 40), .inl (3, 40), .inl (1, 13), .inl (1, 13), .inl (1, 13), .inl (1, 52), .inl (1, 208), .inl (3, 4), .inl (1, 5), .inl (1, 5)]
theorem LY21_0 : (LY21)[0]? = some (.inr (9, [(0, 0), (0, 0), (2, 1), (0, 0), (0, 0), (0, 0), (0, 0), (1, 0), (0, 0), (0, 0), (2, 2), (2, 3), (2, 4), (2, 5), (2, 6), (2, 7), (2, 8), (2, 9), (2, 10), (2, 11), (2, 12), (2, 13), (2, 14), (2, 15), (0, 0), (0, 0), (2, 16), (2, 17), (2, 18), (2, 19), (2, 20), (2, 21), (2, 22), (2, 23), (2, 24), (2, 25), (2, 26), (2, 27), (0, 0), (1, 0), (2, 28), (2, 29), (2, 30), (2, 31), (2, 32), (2, 33), (2, 34), (2, 35), (2, 36), (2, 37), (2, 38), (2, 39), (2, 40), (0, 0), (0, 0), (0, 0), (2, 41), (2, 42), (0, 0), (0, 0), (0, 0), (1, 0)])) := rfl
theorem LY21_1 : (LY21)[1]? = some (.inl (1, 1000)) := rfl
theorem LY21_2 : (LY21)[2]? = some (.inl (1, 8)) := rfl
theorem LY21_3 : (LY21)[3]? = some (.inl (2, 10)) := rfl
theorem LY21_4 : (LY21)[4]? = some (.inl (2, 10)) := rfl
theorem LY21_5 : (LY21)[5]? = some (.inl (1, 10)) := rfl
theorem LY21_6 : (LY21)[6]? = some (.inl (1, 10)) := rfl
theorem LY21_7 : (LY21)[7]? = some (.inl (1, 10)) := rfl
theorem LY21_8 : (LY21)[8]? = some (.inl (1, 10)) := rfl
theorem LY21_9 : (LY21)[9]? = some (.inl (1, 10)) := rfl
theorem LY21_10 : (LY21)[10]? = some (.inl (1, 10)) := rfl
theorem LY21_11 : (LY21)[11]? = some (.inl (1, 20)) := rfl
theorem LY21_12 : (LY21)[12]? = some (.inl (1, 24)) := rfl
theorem LY21_13 : (LY21)[13]? = some (.inl (1, 2)) := rfl
theorem LY21_14 : (LY21)[14]? = some (.inl (1, 2)) := rfl
theorem LY21_15 : (LY21)[15]? = some (.inl (1, 2000)) := rfl
theorem LY21_16 : (LY21)[16]? = some (.inl (1, 7)) := rfl
theorem LY21_17 : (LY21)[17]? = some (.inl (3, 7)) := rfl
theorem LY21_18 : (LY21)[18]? = some (.inl (1, 7)) := rfl
theorem LY21_19 : (LY21)[19]? = some (.inl (1, 7)) := rfl
theorem LY21_20 : (LY21)[20]? = some (.inl (1, 7)) := rfl
theorem LY21_21 : (LY21)[21]? = some (.inl (1, 7)) := rfl
theorem LY21_22 : (LY21)[22]? = some (.inl (1, 7)) := rfl
theorem LY21_23 : (LY21)[23]? = some (.inl (1, 7)) := rfl
theorem LY21_24 : (LY21)[24]? = some (.inl (1, 7)) := rfl
theorem LY21_25 : (LY21)[25]? = some (.inl (1, 7)) := rfl
theorem LY21_26 : (LY21)[26]? = some (.inl (1, 7)) := rfl
theorem LY21_27 : (LY21)[27]? = some (.inl (1, 20)) := rfl
theorem LY21_28 : (LY21)[28]? = some (.inl (1, 6)) := rfl
theorem LY21_29 : (LY21)[29]? = some (.inl (1, 240)) := rfl
theorem LY21_30 : (LY21)[30]? = some (.inl (1, 240)) := rfl
theorem LY21_31 : (LY21)[31]? = some (.inl (1, 240)) := rfl
theorem LY21_32 : (LY21)[32]? = some (.inl (1, 5)) := rfl
theorem LY21_33 : (LY21)[33]? = some (.inl (1, 40)) := rfl
theorem LY21_34 : (LY21)[34]? = some (.inl (3, 40)) := rfl
theorem LY21_35 : (LY21)[35]? = some (.inl (1, 13)) := rfl
theorem LY21_36 : (LY21)[36]? = some (.inl (1, 13)) := rfl
theorem LY21_37 : (LY21)[37]? = some (.inl (1, 13)) := rfl
theorem LY21_38 : (LY21)[38]? = some (.inl (1, 52)) := rfl
theorem LY21_39 : (LY21)[39]? = some (.inl (1, 208)) := rfl
theorem LY21_40 : (LY21)[40]? = some (.inl (3, 4)) := rfl
theorem LY21_41 : (LY21)[41]? = some (.inl (1, 5)) := rfl
theorem LY21_42 : (LY21)[42]? = some (.inl (1, 5)) := rfl
def LY22 (n1 : Nat) : List Shp := [.inl (1, n1)]
theorem LY22_0 {n1 : Nat} : (LY22 n1)[0]? = some (.inl (1, n1)) := rfl
def LY23 (n1 : Nat) (n2 : Nat) : List Shp := [.inl (1, n1), .inl (1, n2)]
theorem LY23_0 {n1 : Nat} {n2 : Nat} : (LY23 n1 n2)[0]? = some (.inl (1, n1)) := rfl
theorem LY23_1 {n1 : Nat} {n2 : Nat} : (LY23 n1 n2)[1]? = some (.inl (1, n2)) := rfl
def pl_LY3_LY2_3_4_5407097 : List Nat := [3, 4, 5, 6, 7, 8, 9, 10, 11, 12, 13, 14, 15, 16, 17]
def pl_LY3_LY0_0_1_2 : List Nat := [0, 1, 2]
def pl_LY5_LY4_ : List Nat := []
def pl_LY7_LY5_3_4_5 : List Nat := [3, 4, 5]
def pl_LY7_LY6_0_1_2 : List Nat := [0, 1, 2]
def pl_LY7_LY4_ : List Nat := []
def pl_LY6_LY4_ : List Nat := []
def pl_LY8_LY6_15_16_17 : List Nat := [15, 16, 17]
def pl_LY9_LY8_20_21_72255155 : List Nat := [20, 21, 22, 5, 6, 7, 8, 9, 10, 11, 12, 13, 14, 15, 16, 17, 18, 19]
def pl_LY9_LY4_ : List Nat := []
def pl_LY9_LY11_0_1_24717415 : List Nat := [0, 1, 2, 3, 4, 5, 6, 7, 8, 9, 10, 11, 12, 13, 14, 15, 16, 17, 18, 19]
def pl_LY9_LY10_0_1_2_3_4 : List Nat := [0, 1, 2, 3, 4]
def pl_LY9_LY2_5_6_76939655 : List Nat := [5, 6, 7, 8, 9, 10, 11, 12, 13, 14, 15, 16, 17, 18, 19]
def pl_LY14_LY12_1_2_3_11_12_13 : List Nat := [1, 2, 3, 11, 12, 13]
def pl_LY14_LY13_4_5_3177325 : List Nat := [4, 5, 6, 7, 14, 15, 16, 17]
def pl_LY14_LY1_8_9_10_18_19_20 : List Nat := [8, 9, 10, 18, 19, 20]
def pl_LY14_LY12_11_12_13_1_2_3 : List Nat := [11, 12, 13, 1, 2, 3]
def pl_LY14_LY13_14_15_23041770 : List Nat := [14, 15, 16, 17, 4, 5, 6, 7]
def pl_LY14_LY1_18_19_20_8_9_10 : List Nat := [18, 19, 20, 8, 9, 10]
def pl_LY8_LY15_0_1_2 : List Nat := [0, 1, 2]
def pl_LY8_LY4_ : List Nat := []
def pl_LY8_LY2_3_4_5407097 : List Nat := [3, 4, 5, 6, 7, 8, 9, 10, 11, 12, 13, 14, 15, 16, 17]
def pl_LY17_LY5_15_16_17 : List Nat := [15, 16, 17]
def pl_LY17_LY16_1 : List Nat := [1]
def pl_LY17_LY16_2 : List Nat := [2]
def pl_LY17_LY4_ : List Nat := []
def pl_LY17_LY7_12_13_14_15_16_17 : List Nat := [12, 13, 14, 15, 16, 17]
def pl_LY17_LY2_0_1_6604944 : List Nat := [0, 1, 2, 3, 4, 5, 6, 7, 8, 9, 10, 11, 12, 13, 14]
def pl_LY18_LY17_7_8_35335712 : List Nat := [7, 8, 9, 10, 11, 12, 13, 14, 15, 16, 17, 18, 19, 20, 21, 4, 5, 6]
def pl_LY18_LY4_ : List Nat := []
def pl_LY18_LY5_4_5_6 : List Nat := [4, 5, 6]
def pl_LY19_LY15_19_20_21 : List Nat := [19, 20, 21]
def pl_LY19_LY8_19_20_85921260 : List Nat := [19, 20, 21, 4, 5, 6, 7, 8, 9, 10, 11, 12, 13, 14, 15, 16, 17, 18]
def pl_LY19_LY2_4_5_96029952 : List Nat := [4, 5, 6, 7, 8, 9, 10, 11, 12, 13, 14, 15, 16, 17, 18]
def pl_LY20_LY5_1_2_3 : List Nat := [1, 2, 3]
def pl_LY20_LY2_112_113_59166342 : List Nat := [112, 113, 114, 115, 116, 117, 118, 119, 120, 121, 122, 123, 124, 125, 126]
def pl_LY20_LY8_4_5_5025986 : List Nat := [4, 5, 6, 112, 113, 114, 115, 116, 117, 118, 119, 120, 121, 122, 123, 124, 125, 126]
def pl_LY20_LY15_4_5_6 : List Nat := [4, 5, 6]
def pl_LY20_LY19_142_143_14484231 : List Nat := [142, 143, 144, 145, 112, 113, 114, 115, 116, 117, 118, 119, 120, 121, 122, 123, 124, 125, 126, 7, 8, 9]
def pl_LY20_LY4_ : List Nat := []
def pl_LY20_LY12_7_8_9_4_5_6 : List Nat := [7, 8, 9, 4, 5, 6]
def pl_LY20_LY9_13_14_56151515 : List Nat := [13, 14, 15, 16, 17, 112, 113, 114, 115, 116, 117, 118, 119, 120, 121, 122, 123, 124, 125, 126, 7, 8, 9]
def pl_LY20_LY0_10_11_12 : List Nat := [10, 11, 12]
def pl_LY20_LY3_10_11_23595617 : List Nat := [10, 11, 12, 112, 113, 114, 115, 116, 117, 118, 119, 120, 121, 122, 123, 124, 125, 126]
def pl_LY20_LY8_7_8_21942644 : List Nat := [7, 8, 9, 112, 113, 114, 115, 116, 117, 118, 119, 120, 121, 122, 123, 124, 125, 126]
def pl_LY20_LY15_7_8_9 : List Nat := [7, 8, 9]
def pl_LY21_LY4_ : List Nat := []
def pl_LY21_LY22_2 : List Nat := [2]
def pl_LY21_LY16_3 : List Nat := [3]
def pl_LY21_LY16_4 : List Nat := [4]
def pl_LY21_LY22_5 : List Nat := [5]
def pl_LY21_LY22_6 : List Nat := [6]
def pl_LY21_LY22_7 : List Nat := [7]
def pl_LY21_LY22_8 : List Nat := [8]
def pl_LY21_LY22_9 : List Nat := [9]
def pl_LY21_LY22_10 : List Nat := [10]
def pl_LY21_LY22_11 : List Nat := [11]
def pl_LY21_LY22_12 : List Nat := [12]
def pl_LY21_LY22_15 : List Nat := [15]
def pl_LY21_LY23_35_39 : List Nat := [35, 39]
def pl_LY21_LY23_39_35 : List Nat := [39, 35]
def pl_LY21_LY23_36_35 : List Nat := [36, 35]
def pl_LY21_LY23_35_36 : List Nat := [35, 36]
def pl_LY21_LY23_37_35 : List Nat := [37, 35]
def pl_LY21_LY23_35_37 : List Nat := [35, 37]
def pl_LY21_LY23_35_38 : List Nat := [35, 38]
def pl_LY21_LY23_38_35 : List Nat := [38, 35]
theorem sb_LY3_LY2_3_4_5407097 : subB LY3 pl_LY3_LY2_3_4_5407097 LY2 pl_LY3_LY2_3_4_5407097 = true := rfl
theorem sb_LY3_LY0_0_1_2 : subB LY3 pl_LY3_LY0_0_1_2 LY0 pl_LY3_LY0_0_1_2 = true := rfl
theorem sb_LY5_LY4_ : subB LY5 pl_LY5_LY4_ LY4 pl_LY5_LY4_ = true := rfl
theorem sb_LY7_LY5_3_4_5 : subB LY7 pl_LY7_LY5_3_4_5 LY5 pl_LY7_LY5_3_4_5 = true := rfl
theorem sb_LY7_LY6_0_1_2 : subB LY7 pl_LY7_LY6_0_1_2 LY6 pl_LY7_LY6_0_1_2 = true := rfl
theorem sb_LY7_LY4_ : subB LY7 pl_LY7_LY4_ LY4 pl_LY7_LY4_ = true := rfl
theorem sb_LY6_LY4_ : subB LY6 pl_LY6_LY4_ LY4 pl_LY6_LY4_ = true := rfl
theorem sb_LY8_LY6_15_16_17 : subB LY8 pl_LY8_LY6_15_16_17 LY6 pl_LY8_LY6_15_16_17 = true := rfl
theorem sb_LY9_LY8_20_21_72255155 : subB LY9 pl_LY9_LY8_20_21_72255155 LY8 pl_LY9_LY8_20_21_72255155 = true := rfl
theorem sb_LY9_LY4_ : subB LY9 pl_LY9_LY4_ LY4 pl_LY9_LY4_ = true := rfl
theorem sb_LY9_LY11_0_1_24717415 : subB LY9 pl_LY9_LY11_0_1_24717415 LY11 pl_LY9_LY11_0_1_24717415 = true := rfl
theorem sb_LY9_LY10_0_1_2_3_4 : subB LY9 pl_LY9_LY10_0_1_2_3_4 LY10 pl_LY9_LY10_0_1_2_3_4 = true := rfl
theorem sb_LY9_LY2_5_6_76939655 : subB LY9 pl_LY9_LY2_5_6_76939655 LY2 pl_LY9_LY2_5_6_76939655 = true := rfl
theorem sb_LY14_LY12_1_2_3_11_12_13 : subB LY14 pl_LY14_LY12_1_2_3_11_12_13 LY12 pl_LY14_LY12_1_2_3_11_12_13 = true := rfl
theorem sb_LY14_LY13_4_5_3177325 : subB LY14 pl_LY14_LY13_4_5_3177325 LY13 pl_LY14_LY13_4_5_3177325 = true := rfl
theorem sb_LY14_LY1_8_9_10_18_19_20 : subB LY14 pl_LY14_LY1_8_9_10_18_19_20 LY1 pl_LY14_LY1_8_9_10_18_19_20 = true := rfl
theorem sb_LY14_LY12_11_12_13_1_2_3 : subB LY14 pl_LY14_LY12_11_12_13_1_2_3 LY12 pl_LY14_LY12_11_12_13_1_2_3 = true := rfl
theorem sb_LY14_LY13_14_15_23041770 : subB LY14 pl_LY14_LY13_14_15_23041770 LY13 pl_LY14_LY13_14_15_23041770 = true := rfl
theorem sb_LY14_LY1_18_19_20_8_9_10 : subB LY14 pl_LY14_LY1_18_19_20_8_9_10 LY1 pl_LY14_LY1_18_19_20_8_9_10 = true := rfl
theorem sb_LY8_LY15_0_1_2 : subB LY8 pl_LY8_LY15_0_1_2 LY15 pl_LY8_LY15_0_1_2 = true := rfl
theorem sb_LY8_LY4_ : subB LY8 pl_LY8_LY4_ LY4 pl_LY8_LY4_ = true := rfl
theorem sb_LY8_LY2_3_4_5407097 : subB LY8 pl_LY8_LY2_3_4_5407097 LY2 pl_LY8_LY2_3_4_5407097 = true := rfl
theorem sb_LY17_LY5_15_16_17 : subB LY17 pl_LY17_LY5_15_16_17 LY5 pl_LY17_LY5_15_16_17 = true := rfl
theorem sb_LY17_LY16_1 : subB LY17 pl_LY17_LY16_1 (LY16 5) pl_LY17_LY16_1 = true := rfl
theorem sb_LY17_LY16_2 : subB LY17 pl_LY17_LY16_2 (LY16 5) pl_LY17_LY16_2 = true := rfl
theorem sb_LY17_LY4_ : subB LY17 pl_LY17_LY4_ LY4 pl_LY17_LY4_ = true := rfl
theorem sb_LY17_LY7_12_13_14_15_16_17 : subB LY17 pl_LY17_LY7_12_13_14_15_16_17 LY7 pl_LY17_LY7_12_13_14_15_16_17 = true := rfl
theorem sb_LY17_LY2_0_1_6604944 : subB LY17 pl_LY17_LY2_0_1_6604944 LY2 pl_LY17_LY2_0_1_6604944 = true := rfl
theorem sb_LY18_LY17_7_8_35335712 : subB LY18 pl_LY18_LY17_7_8_35335712 LY17 pl_LY18_LY17_7_8_35335712 = true := rfl
theorem sb_LY18_LY4_ : subB LY18 pl_LY18_LY4_ LY4 pl_LY18_LY4_ = true := rfl
theorem sb_LY18_LY5_4_5_6 : subB LY18 pl_LY18_LY5_4_5_6 LY5 pl_LY18_LY5_4_5_6 = true := rfl
theorem sb_LY19_LY15_19_20_21 : subB LY19 pl_LY19_LY15_19_20_21 LY15 pl_LY19_LY15_19_20_21 = true := rfl
theorem sb_LY19_LY8_19_20_85921260 : subB LY19 pl_LY19_LY8_19_20_85921260 LY8 pl_LY19_LY8_19_20_85921260 = true := rfl
theorem sb_LY19_LY2_4_5_96029952 : subB LY19 pl_LY19_LY2_4_5_96029952 LY2 pl_LY19_LY2_4_5_96029952 = true := rfl
theorem sb_LY20_LY5_1_2_3 : subB LY20 pl_LY20_LY5_1_2_3 LY5 pl_LY20_LY5_1_2_3 = true := rfl
theorem sb_LY20_LY2_112_113_59166342 : subB LY20 pl_LY20_LY2_112_113_59166342 LY2 pl_LY20_LY2_112_113_59166342 = true := rfl
theorem sb_LY20_LY8_4_5_5025986 : subB LY20 pl_LY20_LY8_4_5_5025986 LY8 pl_LY20_LY8_4_5_5025986 = true := rfl
theorem sb_LY20_LY15_4_5_6 : subB LY20 pl_LY20_LY15_4_5_6 LY15 pl_LY20_LY15_4_5_6 = true := rfl
theorem sb_LY20_LY19_142_143_14484231 : subB LY20 pl_LY20_LY19_142_143_14484231 LY19 pl_LY20_LY19_142_143_14484231 = true := rfl
theorem sb_LY20_LY4_ : subB LY20 pl_LY20_LY4_ LY4 pl_LY20_LY4_ = true := rfl
theorem sb_LY20_LY12_7_8_9_4_5_6 : subB LY20 pl_LY20_LY12_7_8_9_4_5_6 LY12 pl_LY20_LY12_7_8_9_4_5_6 = true := rfl
theorem sb_LY20_LY9_13_14_56151515 : subB LY20 pl_LY20_LY9_13_14_56151515 LY9 pl_LY20_LY9_13_14_56151515 = true := rfl
theorem sb_LY20_LY0_10_11_12 : subB LY20 pl_LY20_LY0_10_11_12 LY0 pl_LY20_LY0_10_11_12 = true := rfl
theorem sb_LY20_LY3_10_11_23595617 : subB LY20 pl_LY20_LY3_10_11_23595617 LY3 pl_LY20_LY3_10_11_23595617 = true := rfl
theorem sb_LY20_LY8_7_8_21942644 : subB LY20 pl_LY20_LY8_7_8_21942644 LY8 pl_LY20_LY8_7_8_21942644 = true := rfl
theorem sb_LY20_LY15_7_8_9 : subB LY20 pl_LY20_LY15_7_8_9 LY15 pl_LY20_LY15_7_8_9 = true := rfl
theorem sb_LY21_LY4_ : subB LY21 pl_LY21_LY4_ LY4 pl_LY21_LY4_ = true := rfl
theorem sb_LY21_LY22_2 : subB LY21 pl_LY21_LY22_2 (LY22 8) pl_LY21_LY22_2 = true := rfl
theorem sb_LY21_LY16_3 : subB LY21 pl_LY21_LY16_3 (LY16 10) pl_LY21_LY16_3 = true := rfl
theorem sb_LY21_LY16_4 : subB LY21 pl_LY21_LY16_4 (LY16 10) pl_LY21_LY16_4 = true := rfl
theorem sb_LY21_LY22_5 : subB LY21 pl_LY21_LY22_5 (LY22 10) pl_LY21_LY22_5 = true := rfl
theorem sb_LY21_LY22_6 : subB LY21 pl_LY21_LY22_6 (LY22 10) pl_LY21_LY22_6 = true := rfl
theorem sb_LY21_LY22_7 : subB LY21 pl_LY21_LY22_7 (LY22 10) pl_LY21_LY22_7 = true := rfl
theorem sb_LY21_LY22_8 : subB LY21 pl_LY21_LY22_8 (LY22 10) pl_LY21_LY22_8 = true := rfl
theorem sb_LY21_LY22_9 : subB LY21 pl_LY21_LY22_9 (LY22 10) pl_LY21_LY22_9 = true := rfl
theorem sb_LY21_LY22_10 : subB LY21 pl_LY21_LY22_10 (LY22 10) pl_LY21_LY22_10 = true := rfl
theorem sb_LY21_LY22_11 : subB LY21 pl_LY21_LY22_11 (LY22 20) pl_LY21_LY22_11 = true := rfl
theorem sb_LY21_LY22_12 : subB LY21 pl_LY21_LY22_12 (LY22 24) pl_LY21_LY22_12 = true := rfl
theorem sb_LY21_LY22_15 : subB LY21 pl_LY21_LY22_15 (LY22 2000) pl_LY21_LY22_15 = true := rfl
theorem sb_LY21_LY23_35_39 : subB LY21 pl_LY21_LY23_35_39 (LY23 13 208) pl_LY21_LY23_35_39 = true := rfl
theorem sb_LY21_LY23_39_35 : subB LY21 pl_LY21_LY23_39_35 (LY23 208 13) pl_LY21_LY23_39_35 = true := rfl
theorem sb_LY21_LY23_36_35 : subB LY21 pl_LY21_LY23_36_35 (LY23 13 13) pl_LY21_LY23_36_35 = true := rfl
theorem sb_LY21_LY23_35_36 : subB LY21 pl_LY21_LY23_35_36 (LY23 13 13) pl_LY21_LY23_35_36 = true := rfl
theorem sb_LY21_LY23_37_35 : subB LY21 pl_LY21_LY23_37_35 (LY23 13 13) pl_LY21_LY23_37_35 = true := rfl
theorem sb_LY21_LY23_35_37 : subB LY21 pl_LY21_LY23_35_37 (LY23 13 13) pl_LY21_LY23_35_37 = true := rfl
theorem sb_LY21_LY23_35_38 : subB LY21 pl_LY21_LY23_35_38 (LY23 13 52) pl_LY21_LY23_35_38 = true := rfl
theorem sb_LY21_LY23_38_35 : subB LY21 pl_LY21_LY23_38_35 (LY23 52 13) pl_LY21_LY23_38_35 = true := rfl
