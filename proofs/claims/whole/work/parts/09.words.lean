def LY0 : List Shp := []
def LY1 : List Shp := [.inr (9, [(0, 0), (0, 0), (2, 1), (0, 0), (0, 0), (0, 0), (0, 0), (1, 0), (0, 0), (0, 0), (2, 2), (2, 3), (2, 4), (2, 5), (2, 6), (2, 7), (2, 8), (2, 9), (2, 10), (2, 11), (2, 12), (2, 13), (2, 14), (2, 15), (0, 0), (0, 0), (2, 16), (2, 17), (2, 18), (2, 19), (2, 20), (2, 21), (2, 22), (2, 23), (2, 24), (2, 25), (2, 26), (2, 27), (0, 0), (1, 0), (2, 28), (2, 29), (2, 30), (2, 31), (2, 32), (2, 33), (2, 34), (2, 35), (2, 36), (2, 37), (2, 38), (2, 39), (2, 40), (0, 0), (0, 0), (0, 0), (2, 41), (2, 42), (0, 0), (0, 0), (0, 0), (1, 0)]), .inl (1, 1000), .inl (1, 8), .inl (2, 10), .inl (2, 10), .inl (1, 10), .inl (1, 10), .inl (1, 10), .inl (1, 10), .inl (1, 10), .inl (1, 10), .inl (1, 20), .inl (1, 24), .inl (1, 2), .inl (1, 2), .inl (1, 2000), .inl (1, 7), .inl (3, 7), .inl (1, 7), .inl (1, 7), .inl (1, 7), .inl (1, 7), .inl (1, 7), .inl (1, 7), .inl (1, 7), .inl (1, 7), .inl (1, 7), .inl (1, 20), .inl (1, 6), .inl (1, 240), .inl (1, 240), .inl (1, 240), .inl (1, 5), .inl (1, 40), .inl (3, 40), .inl (1, 13), .inl (1, 13), .inl (1, 13), .inl (1, 52), .inl (1, 208), .inl (3, 4), .inl (1, 5), .inl (1, 5)]
theorem LY1_0 : (LY1)[0]? = some (.inr (9, [(0, 0), (0, 0), (2, 1), (0, 0), (0, 0), (0, 0), (0, 0), (1, 0), (0, 0), (0, 0), (2, 2), (2, 3), (2, 4), (2, 5), (2, 6), (2, 7), (2, 8), (2, 9), (2, 10), (2, 11), (2, 12), (2, 13), (2, 14), (2, 15), (0, 0), (0, 0), (2, 16), (2, 17), (2, 18), (2, 19), (2, 20), (2, 21), (2, 22), (2, 23), (2, 24), (2, 25), (2, 26), (2, 27), (0, 0), (1, 0), (2, 28), (2, 29), (2, 30), (2, 31), (2, 32), (2, 33), (2, 34), (2, 35), (2, 36), (2, 37), (2, 38), (2, 39), (2, 40), (0, 0), (0, 0), (0, 0), (2, 41), (2, 42), (0, 0), (0, 0), (0, 0), (1, 0)])) := rfl
theorem LY1_1 : (LY1)[1]? = some (.inl (1, 1000)) := rfl
theorem LY1_2 : (LY1)[2]? = some (.inl (1, 8)) := rfl
theorem LY1_3 : (LY1)[3]? = some (.inl (2, 10)) := rfl
theorem LY1_4 : (LY1)[4]? = some (.inl (2, 10)) := rfl
theorem LY1_5 : (LY1)[5]? = some (.inl (1, 10)) := rfl
theorem LY1_6 : (LY1)[6]? = some (.inl (1, 10)) := rfl
theorem LY1_7 : (LY1)[7]? = some (.inl (1, 10)) := rfl
theorem LY1_8 : (LY1)[8]? = some (.inl (1, 10)) := rfl
theorem LY1_9 : (LY1)[9]? = some (.inl (1, 10)) := rfl
theorem LY1_10 : (LY1)[10]? = some (.inl (1, 10)) := rfl
theorem LY1_11 : (LY1)[11]? = some (.inl (1, 20)) := rfl
theorem LY1_12 : (LY1)[12]? = some (.inl (1, 24)) := rfl
theorem LY1_13 : (LY1)[13]? = some (.inl (1, 2)) := rfl
theorem LY1_14 : (LY1)[14]? = some (.inl (1, 2)) := rfl
theorem LY1_15 : (LY1)[15]? = some (.inl (1, 2000)) := rfl
theorem LY1_16 : (LY1)[16]? = some (.inl (1, 7)) := rfl
theorem LY1_17 : (LY1)[17]? = some (.inl (3, 7)) := rfl
theorem LY1_18 : (LY1)[18]? = some (.inl (1, 7)) := rfl
theorem LY1_19 : (LY1)[19]? = some (.inl (1, 7)) := rfl
theorem LY1_20 : (LY1)[20]? = some (.inl (1, 7)) := rfl
theorem LY1_21 : (LY1)[21]? = some (.inl (1, 7)) := rfl
theorem LY1_22 : (LY1)[22]? = some (.inl (1, 7)) := rfl
theorem LY1_23 : (LY1)[23]? = some (.inl (1, 7)) := rfl
theorem LY1_24 : (LY1)[24]? = some (.inl (1, 7)) := rfl
theorem LY1_25 : (LY1)[25]? = some (.inl (1, 7)) := rfl
theorem LY1_26 : (LY1)[26]? = some (.inl (1, 7)) := rfl
theorem LY1_27 : (LY1)[27]? = some (.inl (1, 20)) := rfl
theorem LY1_28 : (LY1)[28]? = some (.inl (1, 6)) := rfl
theorem LY1_29 : (LY1)[29]? = some (.inl (1, 240)) := rfl
theorem LY1_30 : (LY1)[30]? = some (.inl (1, 240)) := rfl
theorem LY1_31 : (LY1)[31]? = some (.inl (1, 240)) := rfl
theorem LY1_32 : (LY1)[32]? = some (.inl (1, 5)) := rfl
theorem LY1_33 : (LY1)[33]? = some (.inl (1, 40)) := rfl
theorem LY1_34 : (LY1)[34]? = some (.inl (3, 40)) := rfl
theorem LY1_35 : (LY1)[35]? = some (.inl (1, 13)) := rfl
theorem LY1_36 : (LY1)[36]? = some (.inl (1, 13)) := rfl
theorem LY1_37 : (LY1)[37]? = some (.inl (1, 13)) := rfl
theorem LY1_38 : (LY1)[38]? = some (.inl (1, 52)) := rfl
theorem LY1_39 : (LY1)[39]? = some (.inl (1, 208)) := rfl
theorem LY1_40 : (LY1)[40]? = some (.inl (3, 4)) := rfl
theorem LY1_41 : (LY1)[41]? = some (.inl (1, 5)) := rfl
theorem LY1_42 : (LY1)[42]? = some (.inl (1, 5)) := rfl
theorem uw_1065 : (Jvm.Cond.fieldLink "CoalHolesModel" (13 : Nat) "CoalHolesModel" "terrace" "[I") ∈ Uw := Uw_of 1065 (by decide +kernel) (by decide +kernel)
theorem uw_1102 : (Jvm.Cond.fieldLink "CoalHolesModel" (114 : Nat) "CoalHolesModel" "s" "[I") ∈ Uw := Uw_of 1102 (by decide +kernel) (by decide +kernel)
theorem aw_X9 : ∀ w ∈ u_ws RX9 TX9 62, w ∈ Uw := fun w hw => by
  have h : u_ws RX9 TX9 62 = [1117, 1119, 1121, 1123, 1125, 1127, 1129, 1131, 1133, 1135, 1137, 1139, 1141, 1143, 1145, 1147, 1149, 1151, 1153, 1155, 1157, 1159, 1161, 1163, 1165, 1167, 1169, 1171, 1173, 1175, 1177, 1179, 1181, 1183, 1185, 1187, 1189, 1191, 1193, 1195, 1197, 1199, 1201, 1203, 1205, 1207, 1209, 1211, 1213, 1215, 1217, 1219, 1221, 1223, 1225, 1227, 1229, 1231, 1233, 1235, 1237, 1239].filterMap (fun i => tables_1[i]?) := by decide +kernel
  have h2 : (u_ws RX9 TX9 62).all goodWord = true := by decide +kernel
  have hg := List.all_eq_true.mp h2 w hw
  rw [h] at hw
  obtain ⟨i, -, hi⟩ := List.mem_filterMap.mp hw
  exact Uw_of i hi hg
theorem fg_X9_114 : FG RX9 114 9 47 := ⟨RX9, TX9, 62, rfl, by decide, uw_1102, aw_X9⟩
theorem fg_X9_13 : FG RX9 13 9 10 := ⟨RX9, TX9, 62, rfl, by decide, uw_1065, aw_X9⟩
theorem kI_0 : Int32.ofInt 0 = 0 := by decide +kernel
theorem kI_1 : Int32.ofInt 1 = 1 := by decide +kernel
theorem kB_8 : (Int8.ofInt 8).toInt32 = 8 := by decide +kernel
theorem tc_0 : Int32.toNatClampNeg 0 = 0 := by decide +kernel
theorem tc_1 : Int32.toNatClampNeg 1 = 1 := by decide +kernel
