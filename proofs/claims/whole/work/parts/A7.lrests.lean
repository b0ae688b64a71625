/-! the law's own rests: it calls the class's, and catches -/
def LY_X8aJ (n1 : Nat) : List Shp := [.inr (8, [(2, 1), (2, 4), (2, 7), (2, 10), (2, 13), (2, 18), (2, 63), (2, 112), (2, 127), (2, 142), (2, 146), (0, 0), (0, 0), (1, 0)]), .inr (5, [(2, 2), (2, 3), (0, 0), (0, 0), (0, 0), (1, 0), (0, 0), (0, 0), (0, 0), (0, 0)]), .inl (0, 1000), .inl (2, 26), .inr (4, [(2, 5), (2, 6), (0, 0), (0, 0), (0, 0)]), .inl (1, 5), .inl (1, 5), .inr (4, [(2, 8), (2, 9), (0, 0), (0, 0), (0, 0)]), .inl (1, 5), .inl (1, 5), .inr (0, [(2, 11), (2, 12), (0, 0), (0, 0), (0, 0)]), .inl (1, 8), .inl (3, 8), .inr (2, [(2, 14), (2, 15), (2, 16), (0, 0), (0, 0), (0, 0), (2, 17), (0, 0)]), .inl (1, 5), .inl (1, 6), .inl (1, 10), .inl (1, 5), .inl (4, 4), .inr (3, [(2, 20), (2, 23), (2, 27), (0, 0)]), .inr (4, [(2, 21), (2, 22), (0, 0), (0, 0), (0, 0)]), .inl (1, 5), .inl (1, 5), .inr (7, [(2, 24), (2, 25), (2, 26), (0, 0)]), .inl (0, 40), .inl (0, 40), .inl (1, 40), .inr (0, [(2, 28), (2, 29), (0, 0), (0, 0), (0, 0)]), .inl (1, 8), .inl (3, 8), .inr (3, [(2, 31), (2, 34), (2, 38), (0, 0)]), .inr (4, [(2, 32), (2, 33), (0, 0), (0, 0), (0, 0)]), .inl (1, 5), .inl (1, 5), .inr (7, [(2, 35), (2, 36), (2, 37), (0, 0)]), .inl (0, 40), .inl (0, 40), .inl (1, 40), .inr (0, [(2, 39), (2, 40), (0, 0), (0, 0), (0, 0)]), .inl (1, 8), .inl (3, 8), .inr (3, [(2, 42), (2, 45), (2, 49), (0, 0)]), .inr (4, [(2, 43), (2, 44), (0, 0), (0, 0), (0, 0)]), .inl (1, 5), .inl (1, 5), .inr (7, [(2, 46), (2, 47), (2, 48), (0, 0)]), .inl (0, 40), .inl (0, 40), .inl (1, 40), .inr (0, [(2, 50), (2, 51), (0, 0), (0, 0), (0, 0)]), .inl (1, 8), .inl (3, 8), .inr (3, [(2, 53), (2, 56), (2, 60), (0, 0)]), .inr (4, [(2, 54), (2, 55), (0, 0), (0, 0), (0, 0)]), .inl (1, 5), .inl (1, 5), .inr (7, [(2, 57), (2, 58), (2, 59), (0, 0)]), .inl (0, 40), .inl (0, 40), .inl (1, 40), .inr (0, [(2, 61), (2, 62), (0, 0), (0, 0), (0, 0)]), .inl (1, 8), .inl (3, 8), .inl (5, 16), .inr (4, [(2, 65), (2, 66), (0, 0), (0, 0), (0, 0)]), .inl (1, 5), .inl (1, 5), .inr (4, [(2, 68), (2, 69), (0, 0), (0, 0), (0, 0)]), .inl (1, 5), .inl (1, 5), .inr (4, [(2, 71), (2, 72), (0, 0), (0, 0), (0, 0)]), .inl (1, 5), .inl (1, 5), .inr (4, [(2, 74), (2, 75), (0, 0), (0, 0), (0, 0)]), .inl (1, 5), .inl (1, 5), .inr (4, [(2, 77), (2, 78), (0, 0), (0, 0), (0, 0)]), .inl (1, 5), .inl (1, 5), .inr (4, [(2, 80), (2, 81), (0, 0), (0, 0), (0, 0)]), .inl (1, 5), .inl (1, 5), .inr (4, [(2, 83), (2, 84), (0, 0), (0, 0), (0, 0)]), .inl (1, 5), .inl (1, 5), .inr (4, [(2, 86), (2, 87), (0, 0), (0, 0), (0, 0)]), .inl (1, 5), .inl (1, 5), .inr (4, [(2, 89), (2, 90), (0, 0), (0, 0), (0, 0)]), .inl (1, 5), .inl (1, 5), .inr (4, [(2, 92), (2, 93), (0, 0), (0, 0), (0, 0)]), .inl (1, 5), .inl (1, 5), .inr (4, [(2, 95), (2, 96), (0, 0), (0, 0), (0, 0)]), .inl (1, 5), .inl (1, 5), .inr (4, [(2, 98), (2, 99), (0, 0), (0, 0), (0, 0)]), .inl (1, 5), .inl (1, 5), .inr (4, [(2, 101), (2, 102), (0, 0), (0, 0), (0, 0)]), .inl (1, 5), .inl (1, 5), .inr (4, [(2, 104), (2, 105), (0, 0), (0, 0), (0, 0)]), .inl (1, 5), .inl (1, 5), .inr (4, [(2, 107), (2, 108), (0, 0), (0, 0), (0, 0)]), .inl (1, 5), .inl (1, 5), .inr (4, [(2, 110), (2, 111), (0, 0), (0, 0), (0, 0)]), .inl (1, 5), .inl (1, 5), .inr (6, [(2, 113), (2, 114), (2, 115), (2, 116), (0, 0), (2, 117), (2, 118), (2, 119), (2, 120), (2, 121), (2, 122), (2, 123), (2, 124), (0, 0), (0, 0), (0, 0), (0, 0), (0, 0)]), .inl (2, 5), .inl (2, 5), .inl (1, 10), .inl (1, 12), .inl (1, 5), .inl (1, 5), .inl (1, 5), .inl (1, 5), .inl (1, 5), .inl (1, 5), .inl (1, 5), .inr (1, [(2, 125), (2, 126), (0, 0), (0, 0), (0, 0)]), .inl (1, 1000), .inl (1, 32), .inr (6, [(2, 128), (2, 129), (2, 130), (2, 131), (0, 0), (2, 132), (2, 133), (2, 134), (2, 135), (2, 136), (2, 137), (2, 138), (2, 139), (0, 0), (0, 0), (0, 0), (0, 0), (0, 0)]), .inl (2, 5), .inl (2, 5), .inl (1, 10), .inl (1, 12), .inl (1, 5), .inl (1, 5), .inl (1, 5), .inl (1, 5), .inl (1, 5), .inl (1, 5), .inl (1, 5), .inr (1, [(2, 140), (2, 141), (0, 0), (0, 0), (0, 0)]), .inl (1, 1000), .inl (1, 32), .inr (7, [(2, 143), (2, 144), (2, 145), (0, 0)]), .inl (0, 40), .inl (0, 40), .inl (1, 40), .inr (7, [(2, 147), (2, 148), (2, 149), (0, 0)]), .inl (0, 40), .inl (0, 40), .inl (1, 40), .inl (2, n1)]
theorem LY_X8aJ_0 {n1 : Nat} : (LY_X8aJ n1)[0]? = some (.inr (8, [(2, 1), (2, 4), (2, 7), (2, 10), (2, 13), (2, 18), (2, 63), (2, 112), (2, 127), (2, 142), (2, 146), (0, 0), (0, 0), (1, 0)])) := rfl
theorem LY_X8aJ_1 {n1 : Nat} : (LY_X8aJ n1)[1]? = some (.inr (5, [(2, 2), (2, 3), (0, 0), (0, 0), (0, 0), (1, 0), (0, 0), (0, 0), (0, 0), (0, 0)])) := rfl
theorem LY_X8aJ_2 {n1 : Nat} : (LY_X8aJ n1)[2]? = some (.inl (0, 1000)) := rfl
theorem LY_X8aJ_3 {n1 : Nat} : (LY_X8aJ n1)[3]? = some (.inl (2, 26)) := rfl
theorem LY_X8aJ_4 {n1 : Nat} : (LY_X8aJ n1)[4]? = some (.inr (4, [(2, 5), (2, 6), (0, 0), (0, 0), (0, 0)])) := rfl
theorem LY_X8aJ_5 {n1 : Nat} : (LY_X8aJ n1)[5]? = some (.inl (1, 5)) := rfl
theorem LY_X8aJ_6 {n1 : Nat} : (LY_X8aJ n1)[6]? = some (.inl (1, 5)) := rfl
theorem LY_X8aJ_7 {n1 : Nat} : (LY_X8aJ n1)[7]? = some (.inr (4, [(2, 8), (2, 9), (0, 0), (0, 0), (0, 0)])) := rfl
theorem LY_X8aJ_8 {n1 : Nat} : (LY_X8aJ n1)[8]? = some (.inl (1, 5)) := rfl
theorem LY_X8aJ_9 {n1 : Nat} : (LY_X8aJ n1)[9]? = some (.inl (1, 5)) := rfl
theorem LY_X8aJ_10 {n1 : Nat} : (LY_X8aJ n1)[10]? = some (.inr (0, [(2, 11), (2, 12), (0, 0), (0, 0), (0, 0)])) := rfl
theorem LY_X8aJ_11 {n1 : Nat} : (LY_X8aJ n1)[11]? = some (.inl (1, 8)) := rfl
theorem LY_X8aJ_12 {n1 : Nat} : (LY_X8aJ n1)[12]? = some (.inl (3, 8)) := rfl
theorem LY_X8aJ_13 {n1 : Nat} : (LY_X8aJ n1)[13]? = some (.inr (2, [(2, 14), (2, 15), (2, 16), (0, 0), (0, 0), (0, 0), (2, 17), (0, 0)])) := rfl
theorem LY_X8aJ_14 {n1 : Nat} : (LY_X8aJ n1)[14]? = some (.inl (1, 5)) := rfl
theorem LY_X8aJ_15 {n1 : Nat} : (LY_X8aJ n1)[15]? = some (.inl (1, 6)) := rfl
theorem LY_X8aJ_16 {n1 : Nat} : (LY_X8aJ n1)[16]? = some (.inl (1, 10)) := rfl
theorem LY_X8aJ_17 {n1 : Nat} : (LY_X8aJ n1)[17]? = some (.inl (1, 5)) := rfl
theorem LY_X8aJ_18 {n1 : Nat} : (LY_X8aJ n1)[18]? = some (.inl (4, 4)) := rfl
theorem LY_X8aJ_19 {n1 : Nat} : (LY_X8aJ n1)[19]? = some (.inr (3, [(2, 20), (2, 23), (2, 27), (0, 0)])) := rfl
theorem LY_X8aJ_20 {n1 : Nat} : (LY_X8aJ n1)[20]? = some (.inr (4, [(2, 21), (2, 22), (0, 0), (0, 0), (0, 0)])) := rfl
theorem LY_X8aJ_21 {n1 : Nat} : (LY_X8aJ n1)[21]? = some (.inl (1, 5)) := rfl
theorem LY_X8aJ_22 {n1 : Nat} : (LY_X8aJ n1)[22]? = some (.inl (1, 5)) := rfl
theorem LY_X8aJ_23 {n1 : Nat} : (LY_X8aJ n1)[23]? = some (.inr (7, [(2, 24), (2, 25), (2, 26), (0, 0)])) := rfl
theorem LY_X8aJ_24 {n1 : Nat} : (LY_X8aJ n1)[24]? = some (.inl (0, 40)) := rfl
theorem LY_X8aJ_25 {n1 : Nat} : (LY_X8aJ n1)[25]? = some (.inl (0, 40)) := rfl
theorem LY_X8aJ_26 {n1 : Nat} : (LY_X8aJ n1)[26]? = some (.inl (1, 40)) := rfl
theorem LY_X8aJ_27 {n1 : Nat} : (LY_X8aJ n1)[27]? = some (.inr (0, [(2, 28), (2, 29), (0, 0), (0, 0), (0, 0)])) := rfl
theorem LY_X8aJ_28 {n1 : Nat} : (LY_X8aJ n1)[28]? = some (.inl (1, 8)) := rfl
theorem LY_X8aJ_29 {n1 : Nat} : (LY_X8aJ n1)[29]? = some (.inl (3, 8)) := rfl
theorem LY_X8aJ_30 {n1 : Nat} : (LY_X8aJ n1)[30]? = some (.inr (3, [(2, 31), (2, 34), (2, 38), (0, 0)])) := rfl
theorem LY_X8aJ_31 {n1 : Nat} : (LY_X8aJ n1)[31]? = some (.inr (4, [(2, 32), (2, 33), (0, 0), (0, 0), (0, 0)])) := rfl
theorem LY_X8aJ_32 {n1 : Nat} : (LY_X8aJ n1)[32]? = some (.inl (1, 5)) := rfl
theorem LY_X8aJ_33 {n1 : Nat} : (LY_X8aJ n1)[33]? = some (.inl (1, 5)) := rfl
theorem LY_X8aJ_34 {n1 : Nat} : (LY_X8aJ n1)[34]? = some (.inr (7, [(2, 35), (2, 36), (2, 37), (0, 0)])) := rfl
theorem LY_X8aJ_35 {n1 : Nat} : (LY_X8aJ n1)[35]? = some (.inl (0, 40)) := rfl
theorem LY_X8aJ_36 {n1 : Nat} : (LY_X8aJ n1)[36]? = some (.inl (0, 40)) := rfl
theorem LY_X8aJ_37 {n1 : Nat} : (LY_X8aJ n1)[37]? = some (.inl (1, 40)) := rfl
theorem LY_X8aJ_38 {n1 : Nat} : (LY_X8aJ n1)[38]? = some (.inr (0, [(2, 39), (2, 40), (0, 0), (0, 0), (0, 0)])) := rfl
theorem LY_X8aJ_39 {n1 : Nat} : (LY_X8aJ n1)[39]? = some (.inl (1, 8)) := rfl
theorem LY_X8aJ_40 {n1 : Nat} : (LY_X8aJ n1)[40]? = some (.inl (3, 8)) := rfl
theorem LY_X8aJ_41 {n1 : Nat} : (LY_X8aJ n1)[41]? = some (.inr (3, [(2, 42), (2, 45), (2, 49), (0, 0)])) := rfl
theorem LY_X8aJ_42 {n1 : Nat} : (LY_X8aJ n1)[42]? = some (.inr (4, [(2, 43), (2, 44), (0, 0), (0, 0), (0, 0)])) := rfl
theorem LY_X8aJ_43 {n1 : Nat} : (LY_X8aJ n1)[43]? = some (.inl (1, 5)) := rfl
theorem LY_X8aJ_44 {n1 : Nat} : (LY_X8aJ n1)[44]? = some (.inl (1, 5)) := rfl
theorem LY_X8aJ_45 {n1 : Nat} : (LY_X8aJ n1)[45]? = some (.inr (7, [(2, 46), (2, 47), (2, 48), (0, 0)])) := rfl
theorem LY_X8aJ_46 {n1 : Nat} : (LY_X8aJ n1)[46]? = some (.inl (0, 40)) := rfl
theorem LY_X8aJ_47 {n1 : Nat} : (LY_X8aJ n1)[47]? = some (.inl (0, 40)) := rfl
theorem LY_X8aJ_48 {n1 : Nat} : (LY_X8aJ n1)[48]? = some (.inl (1, 40)) := rfl
theorem LY_X8aJ_49 {n1 : Nat} : (LY_X8aJ n1)[49]? = some (.inr (0, [(2, 50), (2, 51), (0, 0), (0, 0), (0, 0)])) := rfl
theorem LY_X8aJ_50 {n1 : Nat} : (LY_X8aJ n1)[50]? = some (.inl (1, 8)) := rfl
theorem LY_X8aJ_51 {n1 : Nat} : (LY_X8aJ n1)[51]? = some (.inl (3, 8)) := rfl
theorem LY_X8aJ_52 {n1 : Nat} : (LY_X8aJ n1)[52]? = some (.inr (3, [(2, 53), (2, 56), (2, 60), (0, 0)])) := rfl
theorem LY_X8aJ_53 {n1 : Nat} : (LY_X8aJ n1)[53]? = some (.inr (4, [(2, 54), (2, 55), (0, 0), (0, 0), (0, 0)])) := rfl
theorem LY_X8aJ_54 {n1 : Nat} : (LY_X8aJ n1)[54]? = some (.inl (1, 5)) := rfl
theorem LY_X8aJ_55 {n1 : Nat} : (LY_X8aJ n1)[55]? = some (.inl (1, 5)) := rfl
theorem LY_X8aJ_56 {n1 : Nat} : (LY_X8aJ n1)[56]? = some (.inr (7, [(2, 57), (2, 58), (2, 59), (0, 0)])) := rfl
theorem LY_X8aJ_57 {n1 : Nat} : (LY_X8aJ n1)[57]? = some (.inl (0, 40)) := rfl
theorem LY_X8aJ_58 {n1 : Nat} : (LY_X8aJ n1)[58]? = some (.inl (0, 40)) := rfl
theorem LY_X8aJ_59 {n1 : Nat} : (LY_X8aJ n1)[59]? = some (.inl (1, 40)) := rfl
theorem LY_X8aJ_60 {n1 : Nat} : (LY_X8aJ n1)[60]? = some (.inr (0, [(2, 61), (2, 62), (0, 0), (0, 0), (0, 0)])) := rfl
theorem LY_X8aJ_61 {n1 : Nat} : (LY_X8aJ n1)[61]? = some (.inl (1, 8)) := rfl
theorem LY_X8aJ_62 {n1 : Nat} : (LY_X8aJ n1)[62]? = some (.inl (3, 8)) := rfl
theorem LY_X8aJ_63 {n1 : Nat} : (LY_X8aJ n1)[63]? = some (.inl (5, 16)) := rfl
theorem LY_X8aJ_64 {n1 : Nat} : (LY_X8aJ n1)[64]? = some (.inr (4, [(2, 65), (2, 66), (0, 0), (0, 0), (0, 0)])) := rfl
theorem LY_X8aJ_65 {n1 : Nat} : (LY_X8aJ n1)[65]? = some (.inl (1, 5)) := rfl
theorem LY_X8aJ_66 {n1 : Nat} : (LY_X8aJ n1)[66]? = some (.inl (1, 5)) := rfl
theorem LY_X8aJ_67 {n1 : Nat} : (LY_X8aJ n1)[67]? = some (.inr (4, [(2, 68), (2, 69), (0, 0), (0, 0), (0, 0)])) := rfl
theorem LY_X8aJ_68 {n1 : Nat} : (LY_X8aJ n1)[68]? = some (.inl (1, 5)) := rfl
theorem LY_X8aJ_69 {n1 : Nat} : (LY_X8aJ n1)[69]? = some (.inl (1, 5)) := rfl
theorem LY_X8aJ_70 {n1 : Nat} : (LY_X8aJ n1)[70]? = some (.inr (4, [(2, 71), (2, 72), (0, 0), (0, 0), (0, 0)])) := rfl
theorem LY_X8aJ_71 {n1 : Nat} : (LY_X8aJ n1)[71]? = some (.inl (1, 5)) := rfl
theorem LY_X8aJ_72 {n1 : Nat} : (LY_X8aJ n1)[72]? = some (.inl (1, 5)) := rfl
theorem LY_X8aJ_73 {n1 : Nat} : (LY_X8aJ n1)[73]? = some (.inr (4, [(2, 74), (2, 75), (0, 0), (0, 0), (0, 0)])) := rfl
theorem LY_X8aJ_74 {n1 : Nat} : (LY_X8aJ n1)[74]? = some (.inl (1, 5)) := rfl
theorem LY_X8aJ_75 {n1 : Nat} : (LY_X8aJ n1)[75]? = some (.inl (1, 5)) := rfl
theorem LY_X8aJ_76 {n1 : Nat} : (LY_X8aJ n1)[76]? = some (.inr (4, [(2, 77), (2, 78), (0, 0), (0, 0), (0, 0)])) := rfl
theorem LY_X8aJ_77 {n1 : Nat} : (LY_X8aJ n1)[77]? = some (.inl (1, 5)) := rfl
theorem LY_X8aJ_78 {n1 : Nat} : (LY_X8aJ n1)[78]? = some (.inl (1, 5)) := rfl
theorem LY_X8aJ_79 {n1 : Nat} : (LY_X8aJ n1)[79]? = some (.inr (4, [(2, 80), (2, 81), (0, 0), (0, 0), (0, 0)])) := rfl
theorem LY_X8aJ_80 {n1 : Nat} : (LY_X8aJ n1)[80]? = some (.inl (1, 5)) := rfl
theorem LY_X8aJ_81 {n1 : Nat} : (LY_X8aJ n1)[81]? = some (.inl (1, 5)) := rfl
theorem LY_X8aJ_82 {n1 : Nat} : (LY_X8aJ n1)[82]? = some (.inr (4, [(2, 83), (2, 84), (0, 0), (0, 0), (0, 0)])) := rfl
theorem LY_X8aJ_83 {n1 : Nat} : (LY_X8aJ n1)[83]? = some (.inl (1, 5)) := rfl
theorem LY_X8aJ_84 {n1 : Nat} : (LY_X8aJ n1)[84]? = some (.inl (1, 5)) := rfl
theorem LY_X8aJ_85 {n1 : Nat} : (LY_X8aJ n1)[85]? = some (.inr (4, [(2, 86), (2, 87), (0, 0), (0, 0), (0, 0)])) := rfl
theorem LY_X8aJ_86 {n1 : Nat} : (LY_X8aJ n1)[86]? = some (.inl (1, 5)) := rfl
theorem LY_X8aJ_87 {n1 : Nat} : (LY_X8aJ n1)[87]? = some (.inl (1, 5)) := rfl
theorem LY_X8aJ_88 {n1 : Nat} : (LY_X8aJ n1)[88]? = some (.inr (4, [(2, 89), (2, 90), (0, 0), (0, 0), (0, 0)])) := rfl
theorem LY_X8aJ_89 {n1 : Nat} : (LY_X8aJ n1)[89]? = some (.inl (1, 5)) := rfl
theorem LY_X8aJ_90 {n1 : Nat} : (LY_X8aJ n1)[90]? = some (.inl (1, 5)) := rfl
theorem LY_X8aJ_91 {n1 : Nat} : (LY_X8aJ n1)[91]? = some (.inr (4, [(2, 92), (2, 93), (0, 0), (0, 0), (0, 0)])) := rfl
theorem LY_X8aJ_92 {n1 : Nat} : (LY_X8aJ n1)[92]? = some (.inl (1, 5)) := rfl
theorem LY_X8aJ_93 {n1 : Nat} : (LY_X8aJ n1)[93]? = some (.inl (1, 5)) := rfl
theorem LY_X8aJ_94 {n1 : Nat} : (LY_X8aJ n1)[94]? = some (.inr (4, [(2, 95), (2, 96), (0, 0), (0, 0), (0, 0)])) := rfl
theorem LY_X8aJ_95 {n1 : Nat} : (LY_X8aJ n1)[95]? = some (.inl (1, 5)) := rfl
theorem LY_X8aJ_96 {n1 : Nat} : (LY_X8aJ n1)[96]? = some (.inl (1, 5)) := rfl
theorem LY_X8aJ_97 {n1 : Nat} : (LY_X8aJ n1)[97]? = some (.inr (4, [(2, 98), (2, 99), (0, 0), (0, 0), (0, 0)])) := rfl
theorem LY_X8aJ_98 {n1 : Nat} : (LY_X8aJ n1)[98]? = some (.inl (1, 5)) := rfl
theorem LY_X8aJ_99 {n1 : Nat} : (LY_X8aJ n1)[99]? = some (.inl (1, 5)) := rfl
theorem LY_X8aJ_100 {n1 : Nat} : (LY_X8aJ n1)[100]? = some (.inr (4, [(2, 101), (2, 102), (0, 0), (0, 0), (0, 0)])) := rfl
theorem LY_X8aJ_101 {n1 : Nat} : (LY_X8aJ n1)[101]? = some (.inl (1, 5)) := rfl
theorem LY_X8aJ_102 {n1 : Nat} : (LY_X8aJ n1)[102]? = some (.inl (1, 5)) := rfl
theorem LY_X8aJ_103 {n1 : Nat} : (LY_X8aJ n1)[103]? = some (.inr (4, [(2, 104), (2, 105), (0, 0), (0, 0), (0, 0)])) := rfl
theorem LY_X8aJ_104 {n1 : Nat} : (LY_X8aJ n1)[104]? = some (.inl (1, 5)) := rfl
theorem LY_X8aJ_105 {n1 : Nat} : (LY_X8aJ n1)[105]? = some (.inl (1, 5)) := rfl
theorem LY_X8aJ_106 {n1 : Nat} : (LY_X8aJ n1)[106]? = some (.inr (4, [(2, 107), (2, 108), (0, 0), (0, 0), (0, 0)])) := rfl
theorem LY_X8aJ_107 {n1 : Nat} : (LY_X8aJ n1)[107]? = some (.inl (1, 5)) := rfl
theorem LY_X8aJ_108 {n1 : Nat} : (LY_X8aJ n1)[108]? = some (.inl (1, 5)) := rfl
theorem LY_X8aJ_109 {n1 : Nat} : (LY_X8aJ n1)[109]? = some (.inr (4, [(2, 110), (2, 111), (0, 0), (0, 0), (0, 0)])) := rfl
theorem LY_X8aJ_110 {n1 : Nat} : (LY_X8aJ n1)[110]? = some (.inl (1, 5)) := rfl
theorem LY_X8aJ_111 {n1 : Nat} : (LY_X8aJ n1)[111]? = some (.inl (1, 5)) := rfl
theorem LY_X8aJ_112 {n1 : Nat} : (LY_X8aJ n1)[112]? = some (.inr (6, [(2, 113), (2, 114), (2, 115), (2, 116), (0, 0), (2, 117), (2, 118), (2, 119), (2, 120), (2, 121), (2, 122), (2, 123), (2, 124), (0, 0), (0, 0), (0, 0), (0, 0), (0, 0)])) := rfl
theorem LY_X8aJ_113 {n1 : Nat} : (LY_X8aJ n1)[113]? = some (.inl (2, 5)) := rfl
theorem LY_X8aJ_114 {n1 : Nat} : (LY_X8aJ n1)[114]? = some (.inl (2, 5)) := rfl
theorem LY_X8aJ_115 {n1 : Nat} : (LY_X8aJ n1)[115]? = some (.inl (1, 10)) := rfl
theorem LY_X8aJ_116 {n1 : Nat} : (LY_X8aJ n1)[116]? = some (.inl (1, 12)) := rfl
theorem LY_X8aJ_117 {n1 : Nat} : (LY_X8aJ n1)[117]? = some (.inl (1, 5)) := rfl
theorem LY_X8aJ_118 {n1 : Nat} : (LY_X8aJ n1)[118]? = some (.inl (1, 5)) := rfl
theorem LY_X8aJ_119 {n1 : Nat} : (LY_X8aJ n1)[119]? = some (.inl (1, 5)) := rfl
theorem LY_X8aJ_120 {n1 : Nat} : (LY_X8aJ n1)[120]? = some (.inl (1, 5)) := rfl
theorem LY_X8aJ_121 {n1 : Nat} : (LY_X8aJ n1)[121]? = some (.inl (1, 5)) := rfl
theorem LY_X8aJ_122 {n1 : Nat} : (LY_X8aJ n1)[122]? = some (.inl (1, 5)) := rfl
theorem LY_X8aJ_123 {n1 : Nat} : (LY_X8aJ n1)[123]? = some (.inl (1, 5)) := rfl
theorem LY_X8aJ_124 {n1 : Nat} : (LY_X8aJ n1)[124]? = some (.inr (1, [(2, 125), (2, 126), (0, 0), (0, 0), (0, 0)])) := rfl
theorem LY_X8aJ_125 {n1 : Nat} : (LY_X8aJ n1)[125]? = some (.inl (1, 1000)) := rfl
theorem LY_X8aJ_126 {n1 : Nat} : (LY_X8aJ n1)[126]? = some (.inl (1, 32)) := rfl
theorem LY_X8aJ_127 {n1 : Nat} : (LY_X8aJ n1)[127]? = some (.inr (6, [(2, 128), (2, 129), (2, 130), (2, 131), (0, 0), (2, 132), (2, 133), (2, 134), (2, 135), (2, 136), (2, 137), (2, 138), (2, 139), (0, 0), (0, 0), (0, 0), (0, 0), (0, 0)])) := rfl
theorem LY_X8aJ_128 {n1 : Nat} : (LY_X8aJ n1)[128]? = some (.inl (2, 5)) := rfl
theorem LY_X8aJ_129 {n1 : Nat} : (LY_X8aJ n1)[129]? = some (.inl (2, 5)) := rfl
theorem LY_X8aJ_130 {n1 : Nat} : (LY_X8aJ n1)[130]? = some (.inl (1, 10)) := rfl
theorem LY_X8aJ_131 {n1 : Nat} : (LY_X8aJ n1)[131]? = some (.inl (1, 12)) := rfl
theorem LY_X8aJ_132 {n1 : Nat} : (LY_X8aJ n1)[132]? = some (.inl (1, 5)) := rfl
theorem LY_X8aJ_133 {n1 : Nat} : (LY_X8aJ n1)[133]? = some (.inl (1, 5)) := rfl
theorem LY_X8aJ_134 {n1 : Nat} : (LY_X8aJ n1)[134]? = some (.inl (1, 5)) := rfl
theorem LY_X8aJ_135 {n1 : Nat} : (LY_X8aJ n1)[135]? = some (.inl (1, 5)) := rfl
theorem LY_X8aJ_136 {n1 : Nat} : (LY_X8aJ n1)[136]? = some (.inl (1, 5)) := rfl
theorem LY_X8aJ_137 {n1 : Nat} : (LY_X8aJ n1)[137]? = some (.inl (1, 5)) := rfl
theorem LY_X8aJ_138 {n1 : Nat} : (LY_X8aJ n1)[138]? = some (.inl (1, 5)) := rfl
theorem LY_X8aJ_139 {n1 : Nat} : (LY_X8aJ n1)[139]? = some (.inr (1, [(2, 140), (2, 141), (0, 0), (0, 0), (0, 0)])) := rfl
theorem LY_X8aJ_140 {n1 : Nat} : (LY_X8aJ n1)[140]? = some (.inl (1, 1000)) := rfl
theorem LY_X8aJ_141 {n1 : Nat} : (LY_X8aJ n1)[141]? = some (.inl (1, 32)) := rfl
theorem LY_X8aJ_142 {n1 : Nat} : (LY_X8aJ n1)[142]? = some (.inr (7, [(2, 143), (2, 144), (2, 145), (0, 0)])) := rfl
theorem LY_X8aJ_143 {n1 : Nat} : (LY_X8aJ n1)[143]? = some (.inl (0, 40)) := rfl
theorem LY_X8aJ_144 {n1 : Nat} : (LY_X8aJ n1)[144]? = some (.inl (0, 40)) := rfl
theorem LY_X8aJ_145 {n1 : Nat} : (LY_X8aJ n1)[145]? = some (.inl (1, 40)) := rfl
theorem LY_X8aJ_146 {n1 : Nat} : (LY_X8aJ n1)[146]? = some (.inr (7, [(2, 147), (2, 148), (2, 149), (0, 0)])) := rfl
theorem LY_X8aJ_147 {n1 : Nat} : (LY_X8aJ n1)[147]? = some (.inl (0, 40)) := rfl
theorem LY_X8aJ_148 {n1 : Nat} : (LY_X8aJ n1)[148]? = some (.inl (0, 40)) := rfl
theorem LY_X8aJ_149 {n1 : Nat} : (LY_X8aJ n1)[149]? = some (.inl (1, 40)) := rfl
theorem LY_X8aJ_150 {n1 : Nat} : (LY_X8aJ n1)[150]? = some (.inl (2, n1)) := rfl
def pl_LY_X8aJ_LY_X8_0_1_23985777 : List Nat := [0, 1, 2, 3, 4, 5, 6, 7, 8, 9, 10, 11, 12, 13, 14, 15, 16, 17, 18, 19, 20, 21, 22, 23, 24, 25, 26, 27, 28, 29, 30, 31, 32, 33, 34, 35, 36, 37, 38, 39, 40, 41, 42, 43, 44, 45, 46, 47, 48, 49, 50, 51, 52, 53, 54, 55, 56, 57, 58, 59, 60, 61, 62, 63, 64, 65, 66, 67, 68, 69, 70, 71, 72, 73, 74, 75, 76, 77, 78, 79, 80, 81, 82, 83, 84, 85, 86, 87, 88, 89, 90, 91, 92, 93, 94, 95, 96, 97, 98, 99, 100, 101, 102, 103, 104, 105, 106, 107, 108, 109, 110, 111, 112, 113, 114, 115, 116, 117, 118, 119, 120, 121, 122, 123, 124, 125, 126, 127, 128, 129, 130, 131, 132, 133, 134, 135, 136, 137, 138, 139, 140, 141, 142, 143, 144, 145, 146, 147, 148, 149]
set_option maxRecDepth 100000 in
theorem sb_LY_X8aJ_LY_X8_0_1_23985777 {n1 : Nat} : subB (LY_X8aJ n1) pl_LY_X8aJ_LY_X8_0_1_23985777 LY_X8 pl_LY_X8aJ_LY_X8_0_1_23985777 = true := rfl
-- L_rests
def rmL_rests : Room := { frames := 8, cells := 1, slots := 6, locals := 120 }
def fL_rests (n1 : Nat) (a1 : (Nat → Int64)) (v1 : Int32) (v2 : Int32) (v3 : Int32) (v4 : Int32) : Option (Int32 × (Nat → Int64)) := Option.bind (fX8_rests v1 v2 v3 v4) fun y1 => (bif inb 0 n1 then (some (0, (vp_updL a1 (Int32.toNatClampNeg 0) (Int32.toInt64 y1)))) else none)
set_option maxHeartbeats 4000000 in
set_option maxRecDepth 100000 in
theorem KL_rests (l : Launch) (D : va_G) (cy : Nat → ClassId) (n1 : Nat) (ad : Nat → Nat) (P : MP) (V : MV) (I : MI) (J : MJ) (A : MI) (B : MJ) (v1 : Int32) (v2 : Int32) (v3 : Int32) (v4 : Int32) {res : Int32 × (Nat → Int64)} (hf : fL_rests n1 (B 150) v1 v2 v3 v4 = some res) : LG l yL_rests cL_rests 7 (some .int) [(0, 14, 17, 13)] rmL_rests D cy (dn cy (LY_X8aJ n1) ad P V I J A B) [.ref (ad 0), .int v1, .int v2, .int v3, .int v4, .ref (ad 150)] (some (.int res.1)) (dn cy (LY_X8aJ n1) ad P V (gp I []) (gp J []) (gm A []) (gm B [(150, res.2)])) := by
  refine LG.of (own := RL) (by decide) rfl rfl ?_
  intro p e s m below meth c ls Af C0 hK hN hX hZ htab hA hW hl
  have hW : wd D (dn cy (LY_X8aJ n1) ad P V (gp I []) (gp J []) (gm A []) (gm B [(150, (B 150))])) Af s.heap s.heap [] := wd_sel [] [] [] [150] hW
  have hl : lv_has ls 7 [(0, .ref (ad 0)), (1, .int v1), (2, .int v2), (3, .int v3), (4, .int v4), (5, .ref (ad 150))] := hl
  unfold fL_rests at hf
  refine lv_aload C0.1 C0.2.1 dL_rests_0 (lv_at hl 5 rfl) ?_
  refine lv_iconst (v := 0) C0.1 C0.2.1 dL_rests_2 kI_0 ?_
  refine lv_aload_n C0.1 C0.2.1 dL_rests_3 rfl (lv_at hl 0 rfl) ?_
  refine lv_iload_n C0.1 C0.2.1 dL_rests_4 rfl (lv_at hl 1 rfl) ?_
  refine lv_iload_n C0.1 C0.2.1 dL_rests_5 rfl (lv_at hl 2 rfl) ?_
  refine lv_iload_n C0.1 C0.2.1 dL_rests_6 rfl (lv_at hl 3 rfl) ?_
  refine lv_iload C0.1 C0.2.1 dL_rests_7 (lv_at hl 4 rfl) ?_
  obtain ⟨y1, hy1, hf⟩ := b_some hf
  refine c_Vi C0 hK hN hl.1 hW hA (KX8_rests l D cy  (fun q => ad (pl_LY_X8aJ_LY_X8_0_1_23985777.getD q 0)) (fun q => P (pl_LY_X8aJ_LY_X8_0_1_23985777.getD q 0)) (fun q => Vx (LY_X8aJ n1) ad V (pl_LY_X8aJ_LY_X8_0_1_23985777.getD q 0)) (fun q => gp I [] (pl_LY_X8aJ_LY_X8_0_1_23985777.getD q 0)) (fun q => gp J [] (pl_LY_X8aJ_LY_X8_0_1_23985777.getD q 0)) (fun q => gm A [] (pl_LY_X8aJ_LY_X8_0_1_23985777.getD q 0)) (fun q => gm B [(150, (B 150))] (pl_LY_X8aJ_LY_X8_0_1_23985777.getD q 0)) v1 v2 v3 v4 hy1) (JN_subC (pl := pl_LY_X8aJ_LY_X8_0_1_23985777) sb_LY_X8aJ_LY_X8_0_1_23985777 rfl rfl rfl rfl rfl rfl rfl rfl rfl) (Uw_V uw_977 uw_978 uw_979 uw_1 uw_980) rfl rfl hd_X8_rests ⟨rfl, rfl⟩ rfl (dn_some LY_X8aJ_0) rfl rfl rfl dL_rests_9 ⟨Nat.zero_le _, Nat.zero_le _⟩ (fun H locs hW => ?_)
  have hW : wd D (dn cy (LY_X8aJ n1) ad P V (gp I []) (gp J []) (gm A []) (gm B [(150, (B 150))])) Af s.heap H locs := hW
  refine lv_i2l (v := (Int32.toInt64 y1)) C0.1 C0.2.1 dL_rests_12 rfl ?_
  obtain ⟨hb2, hf⟩ := g_some hf
  refine s_last (f := (vp_updL (B 150) (Int32.toNatClampNeg 0) (Int32.toInt64 y1))) C0 hK hW 150 LY_X8aJ_150 hb2 rfl rfl dL_rests_13 (fun H locs hW => ?_)
  have hW : wd D (dn cy (LY_X8aJ n1) ad P V (gp I []) (gp J []) (gm A []) (gm B [(150, (vp_updL (B 150) (Int32.toNatClampNeg 0) (Int32.toInt64 y1)))])) Af s.heap H locs := hW
  refine lv_goto (tgt := 21) C0.1 C0.2.1 dL_rests_14 (by decide) ?_
  refine lv_iconst (v := 0) C0.1 C0.2.1 dL_rests_21 kI_0 ?_
  obtain rfl := Option.some.inj hf
  exact r_intX C0 hK hW (Nat.zero_le _) (Nat.zero_le _) dL_rests_22
theorem ns_linkL : Cond.classLink "CoalHolesLaw" 13 nsE ∈ Uw := by
  have h : (Uw.any (fun w => decide (w = Cond.classLink "CoalHolesLaw" 13 nsE))) = true := by decide +kernel
  obtain ⟨w, hw, e⟩ := List.any_eq_true.mp h
  rw [← of_decide_eq_true e]; exact hw
section LV
variable {p : Program} {l : Launch} {e : Env} {R : Room} {s : State} {m : MethodId} {args : Array Value} {below : List Frame} {meth : Method} {c : Code} {H : Heap} {locs : List Loc} {cells slots : Nat} {Q : State → Prop}
variable {cc : ByteArray} {nL pc : Nat} {ret : Option FieldType} {own : String} {ls : Array Slot} {rest st0 : List Value} {D : va_G} {Af : Nat → Prop} {H0 : Heap} {cy : Nat → ClassId}
theorem c_VT2 {w wc wc2 w3 : va_W} {pl : List Nat} {y : MethodName} {bytes : ByteArray} {maxL n idx ci qr b : Nat} {rety : Option FieldType} {rm : Room} {As : List Value} {q : vw_C} {fs : List Value} (C0 : CX p s m args meth c cc nL ret own) (hK : va_K D vwCl (tyG cy) s) (hN : NWs s) (hX : XWs s) (hZ : ZSs Af s H0) (hl : ls.size = nL) (hW : wd D w Af H0 H locs) (hA : ∀ q, H0.size ≤ q → Af q)
    (hM : TG l y bytes maxL rety rm D cy wc (.ref b :: As)) (hJ : JN pl w wc wc2 w3) (h2 : wc2 = wc) (h3 : w3 = w) (hG : GoodIn Uw (wsV own idx q.1 y (Cond.code y bytes maxL rety :: Uw))) (hrc : rm.cells = 1) (hrs : rm.slots = 6)
    (hd : y.cls = q.1 ∧ y.cls ≠ "java/lang/invoke/MethodHandle" ∧ y.cls ≠ "java/lang/invoke/VarHandle" ∧ (parseMethodDescriptor y.desc).map (fun d => d.parameters.length) = some n) (hR : Nat.ble (rm.frames + 1) R.frames = true ∧ Nat.ble (8 + (maxL + 11) + rm.locals) R.locals = true)
    (hc : vwCl[ci]? = some q) (he : w[qr]? = some (b, .inr (ci, fs))) (hn : As.length = n) (hst : st0 = As.reverse ++ .ref b :: rest) (hrm : Nat.ble ((rest.map fun v => v.category).sum) 8 = true) (hdg : decode cc pc = .ok (.invokevirtual idx, 3)) (hcs : cells + 1 ≤ R.cells ∧ slots + 6 ≤ R.slots)
    (kx : ∀ (ce : Cell) (q9 : Addr) (H1 : Heap) (locs1 : List Loc), wd D w Af H0 H1 locs1 → H1[q9]? = some ce → ce.vm = .none → s.vm.findClass nsE = some ce.cls → vx_W p l e R s m args below meth c H1 locs1 (cells + 1) (slots + 6) Q (F0 m pc ls rest) q9) : W p l e R s m args below meth c H locs cells slots Q (F0 m pc ls st0) := by
  subst h2
  subst h3
  exact c_VT C0 hK hN hX hZ hl hW hA hM hJ hG hrc hrs hd hR hc he hn hst hrm hdg hcs kx
end LV
set_option maxHeartbeats 4000000 in
set_option maxRecDepth 100000 in
theorem KL_restsT (l : Launch) (h0 : l.stackTraces = false) (D : va_G) (cy : Nat → ClassId) (n1 : Nat) (ad : Nat → Nat) (P : MP) (V : MV) (I : MI) (J : MJ) (A : MI) (B : MJ) (v1 : Int32) (v2 : Int32) (v3 : Int32) (v4 : Int32) (hf : fX8_restsT v1 v2 v3 v4 = some ()) : LG l yL_rests cL_rests 7 (some .int) [(0, 14, 17, 13)] rmL_rests D cy (dn cy (LY_X8aJ n1) ad P V I J A B) [.ref (ad 0), .int v1, .int v2, .int v3, .int v4, .ref (ad 150)] (some (.int 1)) (dn cy (LY_X8aJ n1) ad P V (gp I []) (gp J []) (gm A []) (gm B [])) := by
  refine LG.of (own := RL) (by decide) rfl rfl ?_
  intro p e s m below meth c ls Af C0 hK hN hX hZ htab hA hW hl
  have hW : wd D (dn cy (LY_X8aJ n1) ad P V (gp I []) (gp J []) (gm A []) (gm B [])) Af s.heap s.heap [] := wd_sel [] [] [] [] hW
  have hl : lv_has ls 7 [(0, .ref (ad 0)), (1, .int v1), (2, .int v2), (3, .int v3), (4, .int v4), (5, .ref (ad 150))] := hl
  refine lv_aload C0.1 C0.2.1 dL_rests_0 (lv_at hl 5 rfl) ?_
  refine lv_iconst (v := 0) C0.1 C0.2.1 dL_rests_2 kI_0 ?_
  refine lv_aload_n C0.1 C0.2.1 dL_rests_3 rfl (lv_at hl 0 rfl) ?_
  refine lv_iload_n C0.1 C0.2.1 dL_rests_4 rfl (lv_at hl 1 rfl) ?_
  refine lv_iload_n C0.1 C0.2.1 dL_rests_5 rfl (lv_at hl 2 rfl) ?_
  refine lv_iload_n C0.1 C0.2.1 dL_rests_6 rfl (lv_at hl 3 rfl) ?_
  refine lv_iload C0.1 C0.2.1 dL_rests_7 (lv_at hl 4 rfl) ?_
  refine c_VT2 (wc2 := dn cy LY_X8 (fun q => ad (pl_LY_X8aJ_LY_X8_0_1_23985777.getD q 0)) (fun q => P (pl_LY_X8aJ_LY_X8_0_1_23985777.getD q 0)) (fun q => Vx (LY_X8aJ n1) ad V (pl_LY_X8aJ_LY_X8_0_1_23985777.getD q 0)) (gp (fun q => gp I [] (pl_LY_X8aJ_LY_X8_0_1_23985777.getD q 0)) []) (gp (fun q => gp J [] (pl_LY_X8aJ_LY_X8_0_1_23985777.getD q 0)) []) (gm (fun q => gm A [] (pl_LY_X8aJ_LY_X8_0_1_23985777.getD q 0)) []) (gm (fun q => gm B [] (pl_LY_X8aJ_LY_X8_0_1_23985777.getD q 0)) [])) C0 hK hN hX hZ hl.1 hW hA (KX8_restsT l h0 D cy  (fun q => ad (pl_LY_X8aJ_LY_X8_0_1_23985777.getD q 0)) (fun q => P (pl_LY_X8aJ_LY_X8_0_1_23985777.getD q 0)) (fun q => Vx (LY_X8aJ n1) ad V (pl_LY_X8aJ_LY_X8_0_1_23985777.getD q 0)) (fun q => gp I [] (pl_LY_X8aJ_LY_X8_0_1_23985777.getD q 0)) (fun q => gp J [] (pl_LY_X8aJ_LY_X8_0_1_23985777.getD q 0)) (fun q => gm A [] (pl_LY_X8aJ_LY_X8_0_1_23985777.getD q 0)) (fun q => gm B [] (pl_LY_X8aJ_LY_X8_0_1_23985777.getD q 0)) v1 v2 v3 v4 hf) (JN_subC (pl := pl_LY_X8aJ_LY_X8_0_1_23985777) sb_LY_X8aJ_LY_X8_0_1_23985777 rfl rfl rfl rfl rfl rfl rfl rfl rfl) rfl rfl (Uw_V uw_977 uw_978 uw_979 uw_1 uw_980) rfl rfl hd_X8_rests ⟨rfl, rfl⟩ rfl (dn_some LY_X8aJ_0) rfl rfl rfl dL_rests_9 (by decide) (fun ce q9 H locs hW hce hcv hcl => ?_)
  have hW : wd D (dn cy (LY_X8aJ n1) ad P V (gp I []) (gp J []) (gm A []) (gm B [])) Af s.heap H locs := hW
  refine vy_catch (own := RL) (name := nsE) (E := nsE) C0.2.2.2.2.1 ⟨0, 14, 17, 13⟩ [] (htab.trans rfl) (by decide) (by decide) (C0.2.2.2.2.2.1 _ ns_linkL) (va_Nw.use rfl hX.2.2.2) hce hcv hcl ?_
  refine lv_astore (lv' := [(6, .ref q9), (0, .ref (ad 0)), (1, .int v1), (2, .int v2), (3, .int v3), (4, .int v4), (5, .ref (ad 150))]) C0.1 C0.2.1 dL_rests_17 hl (by decide) rfl (fun ls hl => ?_)
  refine lv_iconst (v := 1) C0.1 C0.2.1 dL_rests_19 kI_1 ?_
  exact r_intX C0 hK hW (by decide) (by decide) dL_rests_20
