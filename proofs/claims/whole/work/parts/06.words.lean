theorem uw_0 : (Jvm.Cond.initialized "CoalHolesLaw") ∈ Uw := Uw_of 0 (by decide +kernel) (by decide +kernel)
theorem uw_1 : (Jvm.Cond.initialized "CoalHoles") ∈ Uw := Uw_of 1 (by decide +kernel) (by decide +kernel)
theorem uw_2 : (Jvm.Cond.initialized "CoalHoles$Tape") ∈ Uw := Uw_of 2 (by decide +kernel) (by decide +kernel)
theorem uw_3 : (Jvm.Cond.initialized "java/lang/String") ∈ Uw := Uw_of 3 (by decide +kernel) (by decide +kernel)
theorem uw_4 : (Jvm.Cond.initialized "java/lang/StringLatin1") ∈ Uw := Uw_of 4 (by decide +kernel) (by decide +kernel)
theorem uw_5 : (Jvm.Cond.initialized "jdk/internal/util/Preconditions") ∈ Uw := Uw_of 5 (by decide +kernel) (by decide +kernel)
theorem uw_6 : (Jvm.Cond.initialized "java/lang/StringUTF16") ∈ Uw := Uw_of 6 (by decide +kernel) (by decide +kernel)
theorem uw_7 : (Jvm.Cond.initialized "CoalHoles$State") ∈ Uw := Uw_of 7 (by decide +kernel) (by decide +kernel)
theorem uw_8 : (Jvm.Cond.initialized "CoalHoles$Heard") ∈ Uw := Uw_of 8 (by decide +kernel) (by decide +kernel)
theorem uw_9 : (Jvm.Cond.initialized "CoalHoles$Lodgings") ∈ Uw := Uw_of 9 (by decide +kernel) (by decide +kernel)
theorem uw_10 : (Jvm.Cond.initialized "CoalHoles$Terrace") ∈ Uw := Uw_of 10 (by decide +kernel) (by decide +kernel)
theorem uw_11 : (Jvm.Cond.initialized "CoalHoles$Law") ∈ Uw := Uw_of 11 (by decide +kernel) (by decide +kernel)
theorem uw_12 : (Jvm.Cond.initialized "CoalHoles$Winter") ∈ Uw := Uw_of 12 (by decide +kernel) (by decide +kernel)
theorem uw_13 : (Jvm.Cond.initialized "CoalHoles$Mark") ∈ Uw := Uw_of 13 (by decide +kernel) (by decide +kernel)
theorem uw_14 : (Jvm.Cond.initialized "CoalHolesModel") ∈ Uw := Uw_of 14 (by decide +kernel) (by decide +kernel)
theorem uw_15 : (Jvm.Cond.initialized "java/lang/Integer") ∈ Uw := Uw_of 15 (by decide +kernel) (by decide +kernel)
theorem uw_16 : (Jvm.Cond.initialized "java/lang/Math") ∈ Uw := Uw_of 16 (by decide +kernel) (by decide +kernel)
theorem uw_17 : (Jvm.Cond.initialized "java/lang/Throwable") ∈ Uw := Uw_of 17 (by decide +kernel) (by decide +kernel)
theorem uw_18 : (Jvm.Cond.initialized "java/lang/Exception") ∈ Uw := Uw_of 18 (by decide +kernel) (by decide +kernel)
theorem uw_19 : (Jvm.Cond.initialized "java/lang/RuntimeException") ∈ Uw := Uw_of 19 (by decide +kernel) (by decide +kernel)
theorem uw_20 : (Jvm.Cond.initialized "java/util/NoSuchElementException") ∈ Uw := Uw_of 20 (by decide +kernel) (by decide +kernel)
theorem uw_23 : (Jvm.Cond.methodLink "CoalHolesLaw" (15 : Nat) ({ cls := "CoalHoles", name := "<init>", desc := "()V" } : Jvm.MethodName)) ∈ Uw := Uw_of 23 (by decide +kernel) (by decide +kernel)
theorem uw_24 : (Jvm.Cond.instanceMethod ({ cls := "CoalHoles", name := "<init>", desc := "()V" } : Jvm.MethodName)) ∈ Uw := Uw_of 24 (by decide +kernel) (by decide +kernel)
theorem uw_25 : (Jvm.Cond.code ({ cls := "CoalHoles", name := "<init>", desc := "()V" } : Jvm.MethodName) prog_1_method_1_code (2 : Nat) (Option.none : Option Jvm.ClassFile.FieldType)) ∈ Uw := Uw_of 25 (by decide +kernel) (by decide +kernel)
theorem uw_26 : (Jvm.Cond.methodLink "CoalHoles" (1 : Nat) ({ cls := "java/lang/Object", name := "<init>", desc := "()V" } : Jvm.MethodName)) ∈ Uw := Uw_of 26 (by decide +kernel) (by decide +kernel)
theorem uw_27 : (Jvm.Cond.instanceMethod ({ cls := "java/lang/Object", name := "<init>", desc := "()V" } : Jvm.MethodName)) ∈ Uw := Uw_of 27 (by decide +kernel) (by decide +kernel)
theorem uw_28 : (Jvm.Cond.code ({ cls := "java/lang/Object", name := "<init>", desc := "()V" } : Jvm.MethodName) object_method_1_code (1 : Nat) (Option.none : Option Jvm.ClassFile.FieldType)) ∈ Uw := Uw_of 28 (by decide +kernel) (by decide +kernel)
theorem uw_31 : (Jvm.Cond.methodLink "CoalHoles" (9 : Nat) ({ cls := "CoalHoles$Tape", name := "<init>", desc := "()V" } : Jvm.MethodName)) ∈ Uw := Uw_of 31 (by decide +kernel) (by decide +kernel)
theorem uw_32 : (Jvm.Cond.instanceMethod ({ cls := "CoalHoles$Tape", name := "<init>", desc := "()V" } : Jvm.MethodName)) ∈ Uw := Uw_of 32 (by decide +kernel) (by decide +kernel)
theorem uw_33 : (Jvm.Cond.code ({ cls := "CoalHoles$Tape", name := "<init>", desc := "()V" } : Jvm.MethodName) prog_7_method_1_code (3 : Nat) (Option.none : Option Jvm.ClassFile.FieldType)) ∈ Uw := Uw_of 33 (by decide +kernel) (by decide +kernel)
theorem uw_34 : (Jvm.Cond.methodLink "CoalHoles$Tape" (3 : Nat) ({ cls := "java/lang/Object", name := "<init>", desc := "()V" } : Jvm.MethodName)) ∈ Uw := Uw_of 34 (by decide +kernel) (by decide +kernel)
theorem uw_36 : (Jvm.Cond.methodLink "CoalHoles$Tape" (21 : Nat) ({ cls := "java/lang/String", name := "length", desc := "()I" } : Jvm.MethodName)) ∈ Uw := Uw_of 36 (by decide +kernel) (by decide +kernel)
theorem uw_37 : (Jvm.Cond.instanceMethod ({ cls := "java/lang/String", name := "length", desc := "()I" } : Jvm.MethodName)) ∈ Uw := Uw_of 37 (by decide +kernel) (by decide +kernel)
theorem uw_38 : (Jvm.Cond.selects "java/lang/String" ({ cls := "java/lang/String", name := "length", desc := "()I" } : Jvm.MethodName) ({ cls := "java/lang/String", name := "length", desc := "()I" } : Jvm.MethodName)) ∈ Uw := Uw_of 38 (by decide +kernel) (by decide +kernel)
theorem uw_39 : (Jvm.Cond.code ({ cls := "java/lang/String", name := "length", desc := "()I" } : Jvm.MethodName) prog_19_method_54_code (1 : Nat) (Option.some Jvm.ClassFile.FieldType.int)) ∈ Uw := Uw_of 39 (by decide +kernel) (by decide +kernel)
theorem uw_40 : (Jvm.Cond.methodLink "java/lang/String" (335 : Nat) ({ cls := "java/lang/String", name := "coder", desc := "()B" } : Jvm.MethodName)) ∈ Uw := Uw_of 40 (by decide +kernel) (by decide +kernel)
theorem uw_41 : (Jvm.Cond.instanceMethod ({ cls := "java/lang/String", name := "coder", desc := "()B" } : Jvm.MethodName)) ∈ Uw := Uw_of 41 (by decide +kernel) (by decide +kernel)
theorem uw_42 : (Jvm.Cond.selects "java/lang/String" ({ cls := "java/lang/String", name := "coder", desc := "()B" } : Jvm.MethodName) ({ cls := "java/lang/String", name := "coder", desc := "()B" } : Jvm.MethodName)) ∈ Uw := Uw_of 42 (by decide +kernel) (by decide +kernel)
theorem uw_43 : (Jvm.Cond.code ({ cls := "java/lang/String", name := "coder", desc := "()B" } : Jvm.MethodName) prog_19_method_152_code (1 : Nat) (Option.some Jvm.ClassFile.FieldType.byte)) ∈ Uw := Uw_of 43 (by decide +kernel) (by decide +kernel)
theorem uw_44 : (Jvm.Cond.fieldLink "java/lang/String" (38 : Nat) "java/lang/String" "COMPACT_STRINGS" "Z") ∈ Uw := Uw_of 44 (by decide +kernel) (by decide +kernel)
theorem uw_46 : (Jvm.Cond.methodLink "CoalHoles$Tape" (27 : Nat) ({ cls := "java/lang/String", name := "charAt", desc := "(I)C" } : Jvm.MethodName)) ∈ Uw := Uw_of 46 (by decide +kernel) (by decide +kernel)
theorem uw_47 : (Jvm.Cond.instanceMethod ({ cls := "java/lang/String", name := "charAt", desc := "(I)C" } : Jvm.MethodName)) ∈ Uw := Uw_of 47 (by decide +kernel) (by decide +kernel)
theorem uw_48 : (Jvm.Cond.selects "java/lang/String" ({ cls := "java/lang/String", name := "charAt", desc := "(I)C" } : Jvm.MethodName) ({ cls := "java/lang/String", name := "charAt", desc := "(I)C" } : Jvm.MethodName)) ∈ Uw := Uw_of 48 (by decide +kernel) (by decide +kernel)
theorem uw_49 : (Jvm.Cond.code ({ cls := "java/lang/String", name := "charAt", desc := "(I)C" } : Jvm.MethodName) prog_19_method_56_code (2 : Nat) (Option.some Jvm.ClassFile.FieldType.char)) ∈ Uw := Uw_of 49 (by decide +kernel) (by decide +kernel)
theorem uw_50 : (Jvm.Cond.methodLink "java/lang/String" (492 : Nat) ({ cls := "java/lang/String", name := "isLatin1", desc := "()Z" } : Jvm.MethodName)) ∈ Uw := Uw_of 50 (by decide +kernel) (by decide +kernel)
theorem uw_51 : (Jvm.Cond.instanceMethod ({ cls := "java/lang/String", name := "isLatin1", desc := "()Z" } : Jvm.MethodName)) ∈ Uw := Uw_of 51 (by decide +kernel) (by decide +kernel)
theorem uw_52 : (Jvm.Cond.selects "java/lang/String" ({ cls := "java/lang/String", name := "isLatin1", desc := "()Z" } : Jvm.MethodName) ({ cls := "java/lang/String", name := "isLatin1", desc := "()Z" } : Jvm.MethodName)) ∈ Uw := Uw_of 52 (by decide +kernel) (by decide +kernel)
theorem uw_53 : (Jvm.Cond.code ({ cls := "java/lang/String", name := "isLatin1", desc := "()Z" } : Jvm.MethodName) prog_19_method_154_code (1 : Nat) (Option.some Jvm.ClassFile.FieldType.boolean)) ∈ Uw := Uw_of 53 (by decide +kernel) (by decide +kernel)
theorem uw_54 : (Jvm.Cond.methodLink "java/lang/String" (495 : Nat) ({ cls := "java/lang/StringLatin1", name := "charAt", desc := "([BI)C" } : Jvm.MethodName)) ∈ Uw := Uw_of 54 (by decide +kernel) (by decide +kernel)
theorem uw_55 : (Jvm.Cond.static ({ cls := "java/lang/StringLatin1", name := "charAt", desc := "([BI)C" } : Jvm.MethodName)) ∈ Uw := Uw_of 55 (by decide +kernel) (by decide +kernel)
theorem uw_56 : (Jvm.Cond.code ({ cls := "java/lang/StringLatin1", name := "charAt", desc := "([BI)C" } : Jvm.MethodName) prog_20_method_2_code (2 : Nat) (Option.some Jvm.ClassFile.FieldType.char)) ∈ Uw := Uw_of 56 (by decide +kernel) (by decide +kernel)
theorem uw_57 : (Jvm.Cond.methodLink "java/lang/StringLatin1" (9 : Nat) ({ cls := "java/lang/String", name := "checkIndex", desc := "(II)V" } : Jvm.MethodName)) ∈ Uw := Uw_of 57 (by decide +kernel) (by decide +kernel)
theorem uw_58 : (Jvm.Cond.static ({ cls := "java/lang/String", name := "checkIndex", desc := "(II)V" } : Jvm.MethodName)) ∈ Uw := Uw_of 58 (by decide +kernel) (by decide +kernel)
theorem uw_59 : (Jvm.Cond.code ({ cls := "java/lang/String", name := "checkIndex", desc := "(II)V" } : Jvm.MethodName) prog_19_method_155_code (2 : Nat) (Option.none : Option Jvm.ClassFile.FieldType)) ∈ Uw := Uw_of 59 (by decide +kernel) (by decide +kernel)
theorem uw_60 : (Jvm.Cond.fieldLink "java/lang/String" (1053 : Nat) "jdk/internal/util/Preconditions" "SIOOBE_FORMATTER" "Ljava/util/function/BiFunction;") ∈ Uw := Uw_of 60 (by decide +kernel) (by decide +kernel)
theorem uw_62 : (Jvm.Cond.methodLink "java/lang/String" (1059 : Nat) ({ cls := "jdk/internal/util/Preconditions", name := "checkIndex", desc := "(IILjava/util/function/BiFunction;)I" } : Jvm.MethodName)) ∈ Uw := Uw_of 62 (by decide +kernel) (by decide +kernel)
theorem uw_63 : (Jvm.Cond.static ({ cls := "jdk/internal/util/Preconditions", name := "checkIndex", desc := "(IILjava/util/function/BiFunction;)I" } : Jvm.MethodName)) ∈ Uw := Uw_of 63 (by decide +kernel) (by decide +kernel)
theorem uw_64 : (Jvm.Cond.code ({ cls := "jdk/internal/util/Preconditions", name := "checkIndex", desc := "(IILjava/util/function/BiFunction;)I" } : Jvm.MethodName) prog_26_method_11_code (3 : Nat) (Option.some Jvm.ClassFile.FieldType.int)) ∈ Uw := Uw_of 64 (by decide +kernel) (by decide +kernel)
theorem uw_65 : (Jvm.Cond.methodLink "java/lang/String" (498 : Nat) ({ cls := "java/lang/StringUTF16", name := "charAt", desc := "([BI)C" } : Jvm.MethodName)) ∈ Uw := Uw_of 65 (by decide +kernel) (by decide +kernel)
theorem uw_66 : (Jvm.Cond.static ({ cls := "java/lang/StringUTF16", name := "charAt", desc := "([BI)C" } : Jvm.MethodName)) ∈ Uw := Uw_of 66 (by decide +kernel) (by decide +kernel)
theorem uw_67 : (Jvm.Cond.code ({ cls := "java/lang/StringUTF16", name := "charAt", desc := "([BI)C" } : Jvm.MethodName) prog_21_method_83_code (2 : Nat) (Option.some Jvm.ClassFile.FieldType.char)) ∈ Uw := Uw_of 67 (by decide +kernel) (by decide +kernel)
theorem uw_68 : (Jvm.Cond.methodLink "java/lang/StringUTF16" (67 : Nat) ({ cls := "java/lang/StringUTF16", name := "checkIndex", desc := "(I[B)V" } : Jvm.MethodName)) ∈ Uw := Uw_of 68 (by decide +kernel) (by decide +kernel)
theorem uw_69 : (Jvm.Cond.static ({ cls := "java/lang/StringUTF16", name := "checkIndex", desc := "(I[B)V" } : Jvm.MethodName)) ∈ Uw := Uw_of 69 (by decide +kernel) (by decide +kernel)
theorem uw_70 : (Jvm.Cond.code ({ cls := "java/lang/StringUTF16", name := "checkIndex", desc := "(I[B)V" } : Jvm.MethodName) prog_21_method_91_code (2 : Nat) (Option.none : Option Jvm.ClassFile.FieldType)) ∈ Uw := Uw_of 70 (by decide +kernel) (by decide +kernel)
theorem uw_71 : (Jvm.Cond.methodLink "java/lang/StringUTF16" (48 : Nat) ({ cls := "java/lang/StringUTF16", name := "length", desc := "([B)I" } : Jvm.MethodName)) ∈ Uw := Uw_of 71 (by decide +kernel) (by decide +kernel)
theorem uw_72 : (Jvm.Cond.static ({ cls := "java/lang/StringUTF16", name := "length", desc := "([B)I" } : Jvm.MethodName)) ∈ Uw := Uw_of 72 (by decide +kernel) (by decide +kernel)
theorem uw_73 : (Jvm.Cond.code ({ cls := "java/lang/StringUTF16", name := "length", desc := "([B)I" } : Jvm.MethodName) prog_21_method_6_code (1 : Nat) (Option.some Jvm.ClassFile.FieldType.int)) ∈ Uw := Uw_of 73 (by decide +kernel) (by decide +kernel)
theorem uw_74 : (Jvm.Cond.methodLink "java/lang/StringUTF16" (414 : Nat) ({ cls := "java/lang/String", name := "checkIndex", desc := "(II)V" } : Jvm.MethodName)) ∈ Uw := Uw_of 74 (by decide +kernel) (by decide +kernel)
theorem uw_75 : (Jvm.Cond.methodLink "java/lang/StringUTF16" (71 : Nat) ({ cls := "java/lang/StringUTF16", name := "getChar", desc := "([BI)C" } : Jvm.MethodName)) ∈ Uw := Uw_of 75 (by decide +kernel) (by decide +kernel)
theorem uw_76 : (Jvm.Cond.static ({ cls := "java/lang/StringUTF16", name := "getChar", desc := "([BI)C" } : Jvm.MethodName)) ∈ Uw := Uw_of 76 (by decide +kernel) (by decide +kernel)
theorem uw_77 : (Jvm.Cond.code ({ cls := "java/lang/StringUTF16", name := "getChar", desc := "([BI)C" } : Jvm.MethodName) prog_21_method_5_code (2 : Nat) (Option.some Jvm.ClassFile.FieldType.char)) ∈ Uw := Uw_of 77 (by decide +kernel) (by decide +kernel)
theorem uw_78 : (Jvm.Cond.fieldLink "java/lang/StringUTF16" (44 : Nat) "java/lang/StringUTF16" "$assertionsDisabled" "Z") ∈ Uw := Uw_of 78 (by decide +kernel) (by decide +kernel)
theorem uw_80 : (Jvm.Cond.fieldLink "java/lang/StringUTF16" (59 : Nat) "java/lang/StringUTF16" "HI_BYTE_SHIFT" "I") ∈ Uw := Uw_of 80 (by decide +kernel) (by decide +kernel)
theorem uw_82 : (Jvm.Cond.fieldLink "java/lang/StringUTF16" (63 : Nat) "java/lang/StringUTF16" "LO_BYTE_SHIFT" "I") ∈ Uw := Uw_of 82 (by decide +kernel) (by decide +kernel)
theorem uw_84 : (Jvm.Cond.fieldLink "CoalHoles$Tape" (9 : Nat) "CoalHoles$Tape" "signs" "[B") ∈ Uw := Uw_of 84 (by decide +kernel) (by decide +kernel)
theorem uw_85 : (Jvm.Cond.fieldLink "CoalHoles$Tape" (15 : Nat) "CoalHoles$Tape" "words" "[J") ∈ Uw := Uw_of 85 (by decide +kernel) (by decide +kernel)
theorem uw_86 : (Jvm.Cond.fieldLink "CoalHoles$Tape" (36 : Nat) "CoalHoles$Tape" "behind" "I") ∈ Uw := Uw_of 86 (by decide +kernel) (by decide +kernel)
theorem uw_87 : (Jvm.Cond.fieldLink "CoalHoles$Tape" (48 : Nat) "CoalHoles$Tape" "place" "I") ∈ Uw := Uw_of 87 (by decide +kernel) (by decide +kernel)
theorem uw_88 : (Jvm.Cond.fieldLink "CoalHoles$Tape" (51 : Nat) "CoalHoles$Tape" "takenPlace" "I") ∈ Uw := Uw_of 88 (by decide +kernel) (by decide +kernel)
theorem uw_89 : (Jvm.Cond.fieldLink "CoalHoles$Tape" (70 : Nat) "CoalHoles$Tape" "name" "J") ∈ Uw := Uw_of 89 (by decide +kernel) (by decide +kernel)
theorem uw_90 : (Jvm.Cond.fieldLink "CoalHoles" (75 : Nat) "CoalHoles$Tape" "length" "I") ∈ Uw := Uw_of 90 (by decide +kernel) (by decide +kernel)
theorem uw_91 : (Jvm.Cond.fieldLink "CoalHoles$Tape" (33 : Nat) "CoalHoles$Tape" "length" "I") ∈ Uw := Uw_of 91 (by decide +kernel) (by decide +kernel)
theorem uw_92 : (Jvm.Cond.fieldLink "CoalHoles$Winter" (43 : Nat) "CoalHoles$Tape" "length" "I") ∈ Uw := Uw_of 92 (by decide +kernel) (by decide +kernel)
theorem uw_93 : (Jvm.Cond.fieldLink "CoalHoles$Terrace" (101 : Nat) "CoalHoles$Tape" "length" "I") ∈ Uw := Uw_of 93 (by decide +kernel) (by decide +kernel)
theorem uw_94 : (Jvm.Cond.fieldLink "CoalHoles$Terrace" (68 : Nat) "CoalHoles$Tape" "token" "I") ∈ Uw := Uw_of 94 (by decide +kernel) (by decide +kernel)
theorem uw_95 : (Jvm.Cond.fieldLink "CoalHoles$Law" (34 : Nat) "CoalHoles$Tape" "token" "I") ∈ Uw := Uw_of 95 (by decide +kernel) (by decide +kernel)
theorem uw_96 : (Jvm.Cond.fieldLink "CoalHoles$Winter" (49 : Nat) "CoalHoles$Tape" "token" "I") ∈ Uw := Uw_of 96 (by decide +kernel) (by decide +kernel)
theorem uw_97 : (Jvm.Cond.fieldLink "CoalHoles$Tape" (45 : Nat) "CoalHoles$Tape" "token" "I") ∈ Uw := Uw_of 97 (by decide +kernel) (by decide +kernel)
theorem uw_98 : (Jvm.Cond.fieldLink "CoalHoles$Law" (55 : Nat) "CoalHoles$Tape" "number" "I") ∈ Uw := Uw_of 98 (by decide +kernel) (by decide +kernel)
theorem uw_99 : (Jvm.Cond.fieldLink "CoalHoles$Tape" (67 : Nat) "CoalHoles$Tape" "number" "I") ∈ Uw := Uw_of 99 (by decide +kernel) (by decide +kernel)
theorem uw_100 : (Jvm.Cond.fieldLink "CoalHoles$Law" (25 : Nat) "CoalHoles$Tape" "fault" "I") ∈ Uw := Uw_of 100 (by decide +kernel) (by decide +kernel)
theorem uw_101 : (Jvm.Cond.fieldLink "CoalHoles$Winter" (46 : Nat) "CoalHoles$Tape" "fault" "I") ∈ Uw := Uw_of 101 (by decide +kernel) (by decide +kernel)
theorem uw_102 : (Jvm.Cond.fieldLink "CoalHoles$Terrace" (104 : Nat) "CoalHoles$Tape" "fault" "I") ∈ Uw := Uw_of 102 (by decide +kernel) (by decide +kernel)
theorem uw_103 : (Jvm.Cond.fieldLink "CoalHoles$Tape" (39 : Nat) "CoalHoles$Tape" "fault" "I") ∈ Uw := Uw_of 103 (by decide +kernel) (by decide +kernel)
theorem uw_130 : (Jvm.Cond.instanceMethod ({ cls := "CoalHoles$State", name := "<init>", desc := "()V" } : Jvm.MethodName)) ∈ Uw := Uw_of 130 (by decide +kernel) (by decide +kernel)
theorem uw_131 : (Jvm.Cond.code ({ cls := "CoalHoles$State", name := "<init>", desc := "()V" } : Jvm.MethodName) prog_6_method_1_code (1 : Nat) (Option.none : Option Jvm.ClassFile.FieldType)) ∈ Uw := Uw_of 131 (by decide +kernel) (by decide +kernel)
theorem uw_132 : (Jvm.Cond.methodLink "CoalHoles$State" (3 : Nat) ({ cls := "java/lang/Object", name := "<init>", desc := "()V" } : Jvm.MethodName)) ∈ Uw := Uw_of 132 (by decide +kernel) (by decide +kernel)
theorem uw_133 : (Jvm.Cond.fieldLink "CoalHoles$State" (9 : Nat) "CoalHoles$State" "coal" "[I") ∈ Uw := Uw_of 133 (by decide +kernel) (by decide +kernel)
theorem uw_134 : (Jvm.Cond.fieldLink "CoalHoles" (111 : Nat) "CoalHoles$State" "coal" "[I") ∈ Uw := Uw_of 134 (by decide +kernel) (by decide +kernel)
theorem uw_135 : (Jvm.Cond.fieldLink "CoalHoles$State" (15 : Nat) "CoalHoles$State" "inside" "[I") ∈ Uw := Uw_of 135 (by decide +kernel) (by decide +kernel)
theorem uw_136 : (Jvm.Cond.fieldLink "CoalHoles" (117 : Nat) "CoalHoles$State" "inside" "[I") ∈ Uw := Uw_of 136 (by decide +kernel) (by decide +kernel)
theorem uw_137 : (Jvm.Cond.fieldLink "CoalHoles$Lodgings" (109 : Nat) "CoalHoles$State" "inside" "[I") ∈ Uw := Uw_of 137 (by decide +kernel) (by decide +kernel)
theorem uw_138 : (Jvm.Cond.fieldLink "CoalHoles$State" (23 : Nat) "CoalHoles$State" "seized" "I") ∈ Uw := Uw_of 138 (by decide +kernel) (by decide +kernel)
theorem uw_139 : (Jvm.Cond.fieldLink "CoalHoles$Winter" (77 : Nat) "CoalHoles$State" "seized" "I") ∈ Uw := Uw_of 139 (by decide +kernel) (by decide +kernel)
theorem uw_140 : (Jvm.Cond.fieldLink "CoalHoles" (140 : Nat) "CoalHoles$State" "seized" "I") ∈ Uw := Uw_of 140 (by decide +kernel) (by decide +kernel)
theorem uw_141 : (Jvm.Cond.fieldLink "CoalHoles$Lodgings" (34 : Nat) "CoalHoles$State" "date" "I") ∈ Uw := Uw_of 141 (by decide +kernel) (by decide +kernel)
theorem uw_142 : (Jvm.Cond.fieldLink "CoalHoles$State" (27 : Nat) "CoalHoles$State" "date" "I") ∈ Uw := Uw_of 142 (by decide +kernel) (by decide +kernel)
theorem uw_143 : (Jvm.Cond.fieldLink "CoalHoles" (239 : Nat) "CoalHoles$State" "date" "I") ∈ Uw := Uw_of 143 (by decide +kernel) (by decide +kernel)
theorem uw_144 : (Jvm.Cond.fieldLink "CoalHoles$State" (30 : Nat) "CoalHoles$State" "brought" "I") ∈ Uw := Uw_of 144 (by decide +kernel) (by decide +kernel)
theorem uw_145 : (Jvm.Cond.fieldLink "CoalHoles$Winter" (84 : Nat) "CoalHoles$State" "brought" "I") ∈ Uw := Uw_of 145 (by decide +kernel) (by decide +kernel)
theorem uw_146 : (Jvm.Cond.fieldLink "CoalHoles" (297 : Nat) "CoalHoles$State" "brought" "I") ∈ Uw := Uw_of 146 (by decide +kernel) (by decide +kernel)
theorem uw_162 : (Jvm.Cond.instanceMethod ({ cls := "CoalHoles$Heard", name := "<init>", desc := "()V" } : Jvm.MethodName)) ∈ Uw := Uw_of 162 (by decide +kernel) (by decide +kernel)
theorem uw_163 : (Jvm.Cond.code ({ cls := "CoalHoles$Heard", name := "<init>", desc := "()V" } : Jvm.MethodName) prog_2_method_1_code (1 : Nat) (Option.none : Option Jvm.ClassFile.FieldType)) ∈ Uw := Uw_of 163 (by decide +kernel) (by decide +kernel)
theorem uw_164 : (Jvm.Cond.methodLink "CoalHoles$Heard" (3 : Nat) ({ cls := "java/lang/Object", name := "<init>", desc := "()V" } : Jvm.MethodName)) ∈ Uw := Uw_of 164 (by decide +kernel) (by decide +kernel)
theorem uw_165 : (Jvm.Cond.fieldLink "CoalHoles$Heard" (9 : Nat) "CoalHoles$Heard" "days" "[I") ∈ Uw := Uw_of 165 (by decide +kernel) (by decide +kernel)
theorem uw_166 : (Jvm.Cond.fieldLink "CoalHoles$Heard" (15 : Nat) "CoalHoles$Heard" "isSome" "[Z") ∈ Uw := Uw_of 166 (by decide +kernel) (by decide +kernel)
theorem uw_167 : (Jvm.Cond.fieldLink "CoalHoles$Heard" (19 : Nat) "CoalHoles$Heard" "size" "I") ∈ Uw := Uw_of 167 (by decide +kernel) (by decide +kernel)
theorem uw_168 : (Jvm.Cond.fieldLink "CoalHoles" (90 : Nat) "CoalHoles$Heard" "size" "I") ∈ Uw := Uw_of 168 (by decide +kernel) (by decide +kernel)
theorem uw_169 : (Jvm.Cond.fieldLink "CoalHoles$Heard" (23 : Nat) "CoalHoles$Heard" "least" "I") ∈ Uw := Uw_of 169 (by decide +kernel) (by decide +kernel)
theorem uw_170 : (Jvm.Cond.fieldLink "CoalHoles" (249 : Nat) "CoalHoles$Heard" "least" "I") ∈ Uw := Uw_of 170 (by decide +kernel) (by decide +kernel)
theorem uw_171 : (Jvm.Cond.fieldLink "CoalHoles$Heard" (26 : Nat) "CoalHoles$Heard" "greatest" "I") ∈ Uw := Uw_of 171 (by decide +kernel) (by decide +kernel)
theorem uw_172 : (Jvm.Cond.fieldLink "CoalHoles" (252 : Nat) "CoalHoles$Heard" "greatest" "I") ∈ Uw := Uw_of 172 (by decide +kernel) (by decide +kernel)
theorem uw_188 : (Jvm.Cond.instanceMethod ({ cls := "CoalHoles$Lodgings", name := "<init>", desc := "()V" } : Jvm.MethodName)) ∈ Uw := Uw_of 188 (by decide +kernel) (by decide +kernel)
theorem uw_189 : (Jvm.Cond.code ({ cls := "CoalHoles$Lodgings", name := "<init>", desc := "()V" } : Jvm.MethodName) prog_4_method_1_code (1 : Nat) (Option.none : Option Jvm.ClassFile.FieldType)) ∈ Uw := Uw_of 189 (by decide +kernel) (by decide +kernel)
theorem uw_190 : (Jvm.Cond.methodLink "CoalHoles$Lodgings" (3 : Nat) ({ cls := "java/lang/Object", name := "<init>", desc := "()V" } : Jvm.MethodName)) ∈ Uw := Uw_of 190 (by decide +kernel) (by decide +kernel)
theorem uw_191 : (Jvm.Cond.fieldLink "CoalHoles$Lodgings" (9 : Nat) "CoalHoles$Lodgings" "row" "[I") ∈ Uw := Uw_of 191 (by decide +kernel) (by decide +kernel)
theorem uw_192 : (Jvm.Cond.fieldLink "CoalHoles$Lodgings" (15 : Nat) "CoalHoles$Lodgings" "leastFrom" "[I") ∈ Uw := Uw_of 192 (by decide +kernel) (by decide +kernel)
theorem uw_193 : (Jvm.Cond.fieldLink "CoalHoles$Lodgings" (18 : Nat) "CoalHoles$Lodgings" "lawful" "[I") ∈ Uw := Uw_of 193 (by decide +kernel) (by decide +kernel)
theorem uw_194 : (Jvm.Cond.fieldLink "CoalHoles$Lodgings" (30 : Nat) "CoalHoles$Lodgings" "street" "I") ∈ Uw := Uw_of 194 (by decide +kernel) (by decide +kernel)
theorem uw_195 : (Jvm.Cond.fieldLink "CoalHoles$Lodgings" (47 : Nat) "CoalHoles$Lodgings" "lasting" "I") ∈ Uw := Uw_of 195 (by decide +kernel) (by decide +kernel)
theorem uw_196 : (Jvm.Cond.fieldLink "CoalHoles$Lodgings" (71 : Nat) "CoalHoles$Lodgings" "bestCost" "I") ∈ Uw := Uw_of 196 (by decide +kernel) (by decide +kernel)
theorem uw_197 : (Jvm.Cond.fieldLink "CoalHoles$Lodgings" (21 : Nat) "CoalHoles$Lodgings" "best" "[I") ∈ Uw := Uw_of 197 (by decide +kernel) (by decide +kernel)
theorem uw_198 : (Jvm.Cond.fieldLink "CoalHoles" (217 : Nat) "CoalHoles$Lodgings" "best" "[I") ∈ Uw := Uw_of 198 (by decide +kernel) (by decide +kernel)
theorem uw_199 : (Jvm.Cond.fieldLink "CoalHoles$Lodgings" (82 : Nat) "CoalHoles$Lodgings" "seized" "I") ∈ Uw := Uw_of 199 (by decide +kernel) (by decide +kernel)
theorem uw_200 : (Jvm.Cond.fieldLink "CoalHoles" (216 : Nat) "CoalHoles$Lodgings" "seized" "I") ∈ Uw := Uw_of 200 (by decide +kernel) (by decide +kernel)
theorem uw_223 : (Jvm.Cond.methodLink "CoalHoles" (52 : Nat) ({ cls := "CoalHoles$Terrace", name := "<init>", desc := "()V" } : Jvm.MethodName)) ∈ Uw := Uw_of 223 (by decide +kernel) (by decide +kernel)
theorem uw_224 : (Jvm.Cond.instanceMethod ({ cls := "CoalHoles$Terrace", name := "<init>", desc := "()V" } : Jvm.MethodName)) ∈ Uw := Uw_of 224 (by decide +kernel) (by decide +kernel)
theorem uw_225 : (Jvm.Cond.code ({ cls := "CoalHoles$Terrace", name := "<init>", desc := "()V" } : Jvm.MethodName) prog_8_method_1_code (1 : Nat) (Option.none : Option Jvm.ClassFile.FieldType)) ∈ Uw := Uw_of 225 (by decide +kernel) (by decide +kernel)
theorem uw_226 : (Jvm.Cond.methodLink "CoalHoles$Terrace" (3 : Nat) ({ cls := "java/lang/Object", name := "<init>", desc := "()V" } : Jvm.MethodName)) ∈ Uw := Uw_of 226 (by decide +kernel) (by decide +kernel)
theorem uw_230 : (Jvm.Cond.instanceMethod ({ cls := "CoalHoles$Law", name := "<init>", desc := "()V" } : Jvm.MethodName)) ∈ Uw := Uw_of 230 (by decide +kernel) (by decide +kernel)
theorem uw_231 : (Jvm.Cond.code ({ cls := "CoalHoles$Law", name := "<init>", desc := "()V" } : Jvm.MethodName) prog_3_method_1_code (1 : Nat) (Option.none : Option Jvm.ClassFile.FieldType)) ∈ Uw := Uw_of 231 (by decide +kernel) (by decide +kernel)
theorem uw_232 : (Jvm.Cond.methodLink "CoalHoles$Law" (3 : Nat) ({ cls := "java/lang/Object", name := "<init>", desc := "()V" } : Jvm.MethodName)) ∈ Uw := Uw_of 232 (by decide +kernel) (by decide +kernel)
theorem uw_233 : (Jvm.Cond.fieldLink "CoalHoles$Law" (9 : Nat) "CoalHoles$Law" "code" "[I") ∈ Uw := Uw_of 233 (by decide +kernel) (by decide +kernel)
theorem uw_234 : (Jvm.Cond.fieldLink "CoalHoles$Law" (15 : Nat) "CoalHoles$Law" "stack" "[I") ∈ Uw := Uw_of 234 (by decide +kernel) (by decide +kernel)
theorem uw_235 : (Jvm.Cond.fieldLink "CoalHoles$Law" (18 : Nat) "CoalHoles$Law" "waiting" "I") ∈ Uw := Uw_of 235 (by decide +kernel) (by decide +kernel)
theorem uw_236 : (Jvm.Cond.fieldLink "CoalHoles$Law" (22 : Nat) "CoalHoles$Law" "nested" "I") ∈ Uw := Uw_of 236 (by decide +kernel) (by decide +kernel)
theorem uw_237 : (Jvm.Cond.fieldLink "CoalHoles$Terrace" (119 : Nat) "CoalHoles$Law" "length" "I") ∈ Uw := Uw_of 237 (by decide +kernel) (by decide +kernel)
theorem uw_238 : (Jvm.Cond.fieldLink "CoalHoles$Law" (78 : Nat) "CoalHoles$Law" "length" "I") ∈ Uw := Uw_of 238 (by decide +kernel) (by decide +kernel)
theorem uw_250 : (Jvm.Cond.methodLink "CoalHoles$Terrace" (53 : Nat) ({ cls := "CoalHoles$Terrace", name := "settle", desc := "()V" } : Jvm.MethodName)) ∈ Uw := Uw_of 250 (by decide +kernel) (by decide +kernel)
theorem uw_252 : (Jvm.Cond.instanceMethod ({ cls := "CoalHoles$Terrace", name := "settle", desc := "()V" } : Jvm.MethodName)) ∈ Uw := Uw_of 252 (by decide +kernel) (by decide +kernel)
theorem uw_253 : (Jvm.Cond.code ({ cls := "CoalHoles$Terrace", name := "settle", desc := "()V" } : Jvm.MethodName) prog_8_method_16_code (3 : Nat) (Option.none : Option Jvm.ClassFile.FieldType)) ∈ Uw := Uw_of 253 (by decide +kernel) (by decide +kernel)
theorem uw_254 : (Jvm.Cond.methodLink "CoalHoles$Terrace" (157 : Nat) ({ cls := "CoalHoles$Terrace", name := "bitsOfKind", desc := "(I)I" } : Jvm.MethodName)) ∈ Uw := Uw_of 254 (by decide +kernel) (by decide +kernel)
theorem uw_256 : (Jvm.Cond.instanceMethod ({ cls := "CoalHoles$Terrace", name := "bitsOfKind", desc := "(I)I" } : Jvm.MethodName)) ∈ Uw := Uw_of 256 (by decide +kernel) (by decide +kernel)
theorem uw_257 : (Jvm.Cond.code ({ cls := "CoalHoles$Terrace", name := "bitsOfKind", desc := "(I)I" } : Jvm.MethodName) prog_8_method_17_code (4 : Nat) (Option.some Jvm.ClassFile.FieldType.int)) ∈ Uw := Uw_of 257 (by decide +kernel) (by decide +kernel)
theorem uw_258 : (Jvm.Cond.fieldLink "CoalHoles$Terrace" (9 : Nat) "CoalHoles$Terrace" "holeNames" "[J") ∈ Uw := Uw_of 258 (by decide +kernel) (by decide +kernel)
theorem uw_259 : (Jvm.Cond.fieldLink "CoalHoles$Terrace" (15 : Nat) "CoalHoles$Terrace" "guestNames" "[J") ∈ Uw := Uw_of 259 (by decide +kernel) (by decide +kernel)
theorem uw_260 : (Jvm.Cond.fieldLink "CoalHoles$Terrace" (18 : Nat) "CoalHoles$Terrace" "flagsAtWar" "[I") ∈ Uw := Uw_of 260 (by decide +kernel) (by decide +kernel)
theorem uw_261 : (Jvm.Cond.fieldLink "CoalHoles$Terrace" (22 : Nat) "CoalHoles$Terrace" "cold" "[I") ∈ Uw := Uw_of 261 (by decide +kernel) (by decide +kernel)
theorem uw_262 : (Jvm.Cond.fieldLink "CoalHoles$Terrace" (113 : Nat) "CoalHoles$Terrace" "colds" "I") ∈ Uw := Uw_of 262 (by decide +kernel) (by decide +kernel)
theorem uw_263 : (Jvm.Cond.fieldLink "CoalHoles$Terrace" (25 : Nat) "CoalHoles$Terrace" "holeFlags" "[I") ∈ Uw := Uw_of 263 (by decide +kernel) (by decide +kernel)
theorem uw_264 : (Jvm.Cond.fieldLink "CoalHoles$Lodgings" (88 : Nat) "CoalHoles$Terrace" "holeFlags" "[I") ∈ Uw := Uw_of 264 (by decide +kernel) (by decide +kernel)
theorem uw_265 : (Jvm.Cond.fieldLink "CoalHoles" (107 : Nat) "CoalHoles$Terrace" "holeFlags" "[I") ∈ Uw := Uw_of 265 (by decide +kernel) (by decide +kernel)
theorem uw_266 : (Jvm.Cond.fieldLink "CoalHoles$State" (73 : Nat) "CoalHoles$Terrace" "holeFlags" "[I") ∈ Uw := Uw_of 266 (by decide +kernel) (by decide +kernel)
theorem uw_267 : (Jvm.Cond.fieldLink "CoalHoles$Terrace" (28 : Nat) "CoalHoles$Terrace" "coalTold" "[I") ∈ Uw := Uw_of 267 (by decide +kernel) (by decide +kernel)
theorem uw_268 : (Jvm.Cond.fieldLink "CoalHoles$State" (18 : Nat) "CoalHoles$Terrace" "coalTold" "[I") ∈ Uw := Uw_of 268 (by decide +kernel) (by decide +kernel)
theorem uw_269 : (Jvm.Cond.fieldLink "CoalHoles$Terrace" (31 : Nat) "CoalHoles$Terrace" "burns" "[I") ∈ Uw := Uw_of 269 (by decide +kernel) (by decide +kernel)
theorem uw_270 : (Jvm.Cond.fieldLink "CoalHoles" (114 : Nat) "CoalHoles$Terrace" "burns" "[I") ∈ Uw := Uw_of 270 (by decide +kernel) (by decide +kernel)
theorem uw_271 : (Jvm.Cond.fieldLink "CoalHoles$State" (111 : Nat) "CoalHoles$Terrace" "burns" "[I") ∈ Uw := Uw_of 271 (by decide +kernel) (by decide +kernel)
theorem uw_272 : (Jvm.Cond.fieldLink "CoalHoles$Terrace" (34 : Nat) "CoalHoles$Terrace" "beside" "[I") ∈ Uw := Uw_of 272 (by decide +kernel) (by decide +kernel)
theorem uw_273 : (Jvm.Cond.fieldLink "CoalHoles" (120 : Nat) "CoalHoles$Terrace" "beside" "[I") ∈ Uw := Uw_of 273 (by decide +kernel) (by decide +kernel)
theorem uw_274 : (Jvm.Cond.fieldLink "CoalHoles$State" (96 : Nat) "CoalHoles$Terrace" "beside" "[I") ∈ Uw := Uw_of 274 (by decide +kernel) (by decide +kernel)
theorem uw_275 : (Jvm.Cond.fieldLink "CoalHoles$Terrace" (37 : Nat) "CoalHoles$Terrace" "kinds" "[I") ∈ Uw := Uw_of 275 (by decide +kernel) (by decide +kernel)
theorem uw_276 : (Jvm.Cond.fieldLink "CoalHoles$Lodgings" (95 : Nat) "CoalHoles$Terrace" "kinds" "[I") ∈ Uw := Uw_of 276 (by decide +kernel) (by decide +kernel)
theorem uw_277 : (Jvm.Cond.fieldLink "CoalHoles" (130 : Nat) "CoalHoles$Terrace" "kinds" "[I") ∈ Uw := Uw_of 277 (by decide +kernel) (by decide +kernel)
theorem uw_278 : (Jvm.Cond.fieldLink "CoalHoles$State" (50 : Nat) "CoalHoles$Terrace" "kinds" "[I") ∈ Uw := Uw_of 278 (by decide +kernel) (by decide +kernel)
theorem uw_279 : (Jvm.Cond.fieldLink "CoalHoles$Terrace" (40 : Nat) "CoalHoles$Terrace" "guestFlags" "[I") ∈ Uw := Uw_of 279 (by decide +kernel) (by decide +kernel)
theorem uw_280 : (Jvm.Cond.fieldLink "CoalHoles$Lodgings" (106 : Nat) "CoalHoles$Terrace" "guestFlags" "[I") ∈ Uw := Uw_of 280 (by decide +kernel) (by decide +kernel)
theorem uw_281 : (Jvm.Cond.fieldLink "CoalHoles" (133 : Nat) "CoalHoles$Terrace" "guestFlags" "[I") ∈ Uw := Uw_of 281 (by decide +kernel) (by decide +kernel)
theorem uw_282 : (Jvm.Cond.fieldLink "CoalHoles$State" (62 : Nat) "CoalHoles$Terrace" "guestFlags" "[I") ∈ Uw := Uw_of 282 (by decide +kernel) (by decide +kernel)
theorem uw_283 : (Jvm.Cond.fieldLink "CoalHoles$Terrace" (43 : Nat) "CoalHoles$Terrace" "foes" "[I") ∈ Uw := Uw_of 283 (by decide +kernel) (by decide +kernel)
theorem uw_284 : (Jvm.Cond.fieldLink "CoalHoles$State" (43 : Nat) "CoalHoles$Terrace" "foes" "[I") ∈ Uw := Uw_of 284 (by decide +kernel) (by decide +kernel)
theorem uw_285 : (Jvm.Cond.fieldLink "CoalHoles" (223 : Nat) "CoalHoles$Terrace" "foes" "[I") ∈ Uw := Uw_of 285 (by decide +kernel) (by decide +kernel)
theorem uw_286 : (Jvm.Cond.fieldLink "CoalHoles$Terrace" (49 : Nat) "CoalHoles$Terrace" "law" "LCoalHoles$Law;") ∈ Uw := Uw_of 286 (by decide +kernel) (by decide +kernel)
theorem uw_287 : (Jvm.Cond.fieldLink "CoalHoles$State" (69 : Nat) "CoalHoles$Terrace" "law" "LCoalHoles$Law;") ∈ Uw := Uw_of 287 (by decide +kernel) (by decide +kernel)
theorem uw_288 : (Jvm.Cond.fieldLink "CoalHoles$Terrace" (107 : Nat) "CoalHoles$Terrace" "holes" "I") ∈ Uw := Uw_of 288 (by decide +kernel) (by decide +kernel)
theorem uw_289 : (Jvm.Cond.fieldLink "CoalHoles$Lodgings" (85 : Nat) "CoalHoles$Terrace" "holes" "I") ∈ Uw := Uw_of 289 (by decide +kernel) (by decide +kernel)
theorem uw_290 : (Jvm.Cond.fieldLink "CoalHoles$State" (33 : Nat) "CoalHoles$Terrace" "holes" "I") ∈ Uw := Uw_of 290 (by decide +kernel) (by decide +kernel)
theorem uw_291 : (Jvm.Cond.fieldLink "CoalHoles" (193 : Nat) "CoalHoles$Terrace" "holes" "I") ∈ Uw := Uw_of 291 (by decide +kernel) (by decide +kernel)
theorem uw_292 : (Jvm.Cond.fieldLink "CoalHoles$Lodgings" (57 : Nat) "CoalHoles$Terrace" "guests" "I") ∈ Uw := Uw_of 292 (by decide +kernel) (by decide +kernel)
theorem uw_293 : (Jvm.Cond.fieldLink "CoalHoles$Terrace" (110 : Nat) "CoalHoles$Terrace" "guests" "I") ∈ Uw := Uw_of 293 (by decide +kernel) (by decide +kernel)
theorem uw_294 : (Jvm.Cond.fieldLink "CoalHoles$State" (36 : Nat) "CoalHoles$Terrace" "guests" "I") ∈ Uw := Uw_of 294 (by decide +kernel) (by decide +kernel)
theorem uw_295 : (Jvm.Cond.fieldLink "CoalHoles" (209 : Nat) "CoalHoles$Terrace" "guests" "I") ∈ Uw := Uw_of 295 (by decide +kernel) (by decide +kernel)
theorem uw_296 : (Jvm.Cond.fieldLink "CoalHoles$Terrace" (116 : Nat) "CoalHoles$Terrace" "sack" "I") ∈ Uw := Uw_of 296 (by decide +kernel) (by decide +kernel)
theorem uw_297 : (Jvm.Cond.fieldLink "CoalHoles$State" (99 : Nat) "CoalHoles$Terrace" "sack" "I") ∈ Uw := Uw_of 297 (by decide +kernel) (by decide +kernel)
theorem uw_298 : (Jvm.Cond.fieldLink "CoalHoles" (291 : Nat) "CoalHoles$Terrace" "sack" "I") ∈ Uw := Uw_of 298 (by decide +kernel) (by decide +kernel)
theorem uw_299 : (Jvm.Cond.fieldLink "CoalHoles$Terrace" (161 : Nat) "CoalHoles$Terrace" "catBits" "I") ∈ Uw := Uw_of 299 (by decide +kernel) (by decide +kernel)
theorem uw_300 : (Jvm.Cond.fieldLink "CoalHoles$State" (117 : Nat) "CoalHoles$Terrace" "catBits" "I") ∈ Uw := Uw_of 300 (by decide +kernel) (by decide +kernel)
theorem uw_301 : (Jvm.Cond.fieldLink "CoalHoles$Terrace" (164 : Nat) "CoalHoles$Terrace" "wantedBits" "I") ∈ Uw := Uw_of 301 (by decide +kernel) (by decide +kernel)
theorem uw_302 : (Jvm.Cond.fieldLink "CoalHoles" (203 : Nat) "CoalHoles$Terrace" "wantedBits" "I") ∈ Uw := Uw_of 302 (by decide +kernel) (by decide +kernel)
theorem uw_303 : (Jvm.Cond.fieldLink "CoalHoles$State" (120 : Nat) "CoalHoles$Terrace" "wantedBits" "I") ∈ Uw := Uw_of 303 (by decide +kernel) (by decide +kernel)
theorem uw_344 : (Jvm.Cond.instanceMethod ({ cls := "CoalHoles$Winter", name := "<init>", desc := "()V" } : Jvm.MethodName)) ∈ Uw := Uw_of 344 (by decide +kernel) (by decide +kernel)
theorem uw_345 : (Jvm.Cond.code ({ cls := "CoalHoles$Winter", name := "<init>", desc := "()V" } : Jvm.MethodName) prog_9_method_1_code (1 : Nat) (Option.none : Option Jvm.ClassFile.FieldType)) ∈ Uw := Uw_of 345 (by decide +kernel) (by decide +kernel)
theorem uw_346 : (Jvm.Cond.methodLink "CoalHoles$Winter" (3 : Nat) ({ cls := "java/lang/Object", name := "<init>", desc := "()V" } : Jvm.MethodName)) ∈ Uw := Uw_of 346 (by decide +kernel) (by decide +kernel)
theorem uw_347 : (Jvm.Cond.fieldLink "CoalHoles$Winter" (9 : Nat) "CoalHoles$Winter" "guests" "[B") ∈ Uw := Uw_of 347 (by decide +kernel) (by decide +kernel)
theorem uw_348 : (Jvm.Cond.fieldLink "CoalHoles$Winter" (15 : Nat) "CoalHoles$Winter" "holes" "[B") ∈ Uw := Uw_of 348 (by decide +kernel) (by decide +kernel)
theorem uw_349 : (Jvm.Cond.fieldLink "CoalHoles$Winter" (18 : Nat) "CoalHoles$Winter" "verbs" "[I") ∈ Uw := Uw_of 349 (by decide +kernel) (by decide +kernel)
theorem uw_350 : (Jvm.Cond.fieldLink "CoalHoles$Winter" (22 : Nat) "CoalHoles$Winter" "lines" "I") ∈ Uw := Uw_of 350 (by decide +kernel) (by decide +kernel)
theorem uw_351 : (Jvm.Cond.fieldLink "CoalHoles" (87 : Nat) "CoalHoles$Winter" "lines" "I") ∈ Uw := Uw_of 351 (by decide +kernel) (by decide +kernel)
theorem uw_363 : (Jvm.Cond.instanceMethod ({ cls := "CoalHoles$Mark", name := "<init>", desc := "()V" } : Jvm.MethodName)) ∈ Uw := Uw_of 363 (by decide +kernel) (by decide +kernel)
theorem uw_364 : (Jvm.Cond.code ({ cls := "CoalHoles$Mark", name := "<init>", desc := "()V" } : Jvm.MethodName) prog_5_method_1_code (1 : Nat) (Option.none : Option Jvm.ClassFile.FieldType)) ∈ Uw := Uw_of 364 (by decide +kernel) (by decide +kernel)
theorem uw_365 : (Jvm.Cond.methodLink "CoalHoles$Mark" (1 : Nat) ({ cls := "java/lang/Object", name := "<init>", desc := "()V" } : Jvm.MethodName)) ∈ Uw := Uw_of 365 (by decide +kernel) (by decide +kernel)
theorem uw_372 : (Jvm.Cond.fieldLink "CoalHoles$Mark" (10 : Nat) "CoalHoles$Mark" "state" "LCoalHoles$State;") ∈ Uw := Uw_of 372 (by decide +kernel) (by decide +kernel)
theorem uw_373 : (Jvm.Cond.fieldLink "CoalHoles$Mark" (19 : Nat) "CoalHoles$Mark" "winter" "LCoalHoles$Winter;") ∈ Uw := Uw_of 373 (by decide +kernel) (by decide +kernel)
theorem uw_374 : (Jvm.Cond.fieldLink "CoalHoles$Mark" (26 : Nat) "CoalHoles$Mark" "heard" "LCoalHoles$Heard;") ∈ Uw := Uw_of 374 (by decide +kernel) (by decide +kernel)
theorem uw_375 : (Jvm.Cond.fieldLink "CoalHoles$Mark" (40 : Nat) "CoalHoles$Mark" "isLaid" "Z") ∈ Uw := Uw_of 375 (by decide +kernel) (by decide +kernel)
theorem uw_376 : (Jvm.Cond.fieldLink "CoalHoles" (96 : Nat) "CoalHoles$Mark" "isLaid" "Z") ∈ Uw := Uw_of 376 (by decide +kernel) (by decide +kernel)
theorem uw_386 : (Jvm.Cond.fieldLink "CoalHoles" (10 : Nat) "CoalHoles" "tape" "LCoalHoles$Tape;") ∈ Uw := Uw_of 386 (by decide +kernel) (by decide +kernel)
theorem uw_387 : (Jvm.Cond.fieldLink "CoalHoles" (19 : Nat) "CoalHoles" "now" "LCoalHoles$State;") ∈ Uw := Uw_of 387 (by decide +kernel) (by decide +kernel)
theorem uw_388 : (Jvm.Cond.fieldLink "CoalHoles" (23 : Nat) "CoalHoles" "trial" "LCoalHoles$State;") ∈ Uw := Uw_of 388 (by decide +kernel) (by decide +kernel)
theorem uw_389 : (Jvm.Cond.fieldLink "CoalHoles" (29 : Nat) "CoalHoles" "heard" "LCoalHoles$Heard;") ∈ Uw := Uw_of 389 (by decide +kernel) (by decide +kernel)
theorem uw_390 : (Jvm.Cond.fieldLink "CoalHoles" (36 : Nat) "CoalHoles" "lodgings" "LCoalHoles$Lodgings;") ∈ Uw := Uw_of 390 (by decide +kernel) (by decide +kernel)
theorem uw_391 : (Jvm.Cond.fieldLink "CoalHoles" (42 : Nat) "CoalHoles" "marks" "[LCoalHoles$Mark;") ∈ Uw := Uw_of 391 (by decide +kernel) (by decide +kernel)
theorem uw_392 : (Jvm.Cond.fieldLink "CoalHoles" (46 : Nat) "CoalHoles" "past" "[LCoalHoles$State;") ∈ Uw := Uw_of 392 (by decide +kernel) (by decide +kernel)
theorem uw_393 : (Jvm.Cond.fieldLink "CoalHoles" (53 : Nat) "CoalHoles" "told" "LCoalHoles$Terrace;") ∈ Uw := Uw_of 393 (by decide +kernel) (by decide +kernel)
theorem uw_394 : (Jvm.Cond.fieldLink "CoalHoles" (57 : Nat) "CoalHoles" "spareTerrace" "LCoalHoles$Terrace;") ∈ Uw := Uw_of 394 (by decide +kernel) (by decide +kernel)
theorem uw_395 : (Jvm.Cond.fieldLink "CoalHoles" (63 : Nat) "CoalHoles" "plan" "LCoalHoles$Winter;") ∈ Uw := Uw_of 395 (by decide +kernel) (by decide +kernel)
theorem uw_396 : (Jvm.Cond.fieldLink "CoalHoles" (67 : Nat) "CoalHoles" "sparePlan" "LCoalHoles$Winter;") ∈ Uw := Uw_of 396 (by decide +kernel) (by decide +kernel)
theorem uw_397 : (Jvm.Cond.fieldLink "CoalHoles" (172 : Nat) "CoalHoles" "pastNext" "I") ∈ Uw := Uw_of 397 (by decide +kernel) (by decide +kernel)
theorem uw_398 : (Jvm.Cond.fieldLink "CoalHoles" (93 : Nat) "CoalHoles" "pastCount" "I") ∈ Uw := Uw_of 398 (by decide +kernel) (by decide +kernel)
theorem uw_399 : (Jvm.Cond.fieldLink "CoalHoles" (274 : Nat) "CoalHoles" "drawn" "J") ∈ Uw := Uw_of 399 (by decide +kernel) (by decide +kernel)
theorem uw_429 : (Jvm.Cond.methodLink "CoalHolesLaw" (21 : Nat) ({ cls := "CoalHoles", name := "feed", desc := "(JJJ)I" } : Jvm.MethodName)) ∈ Uw := Uw_of 429 (by decide +kernel) (by decide +kernel)
theorem uw_430 : (Jvm.Cond.instanceMethod ({ cls := "CoalHoles", name := "feed", desc := "(JJJ)I" } : Jvm.MethodName)) ∈ Uw := Uw_of 430 (by decide +kernel) (by decide +kernel)
theorem uw_431 : (Jvm.Cond.selects "CoalHoles" ({ cls := "CoalHoles", name := "feed", desc := "(JJJ)I" } : Jvm.MethodName) ({ cls := "CoalHoles", name := "feed", desc := "(JJJ)I" } : Jvm.MethodName)) ∈ Uw := Uw_of 431 (by decide +kernel) (by decide +kernel)
theorem uw_432 : (Jvm.Cond.code ({ cls := "CoalHoles", name := "feed", desc := "(JJJ)I" } : Jvm.MethodName) prog_1_method_2_code (7 : Nat) (Option.some Jvm.ClassFile.FieldType.int)) ∈ Uw := Uw_of 432 (by decide +kernel) (by decide +kernel)
theorem uw_433 : (Jvm.Cond.methodLink "CoalHoles" (71 : Nat) ({ cls := "CoalHoles$Tape", name := "addBytes", desc := "(J)V" } : Jvm.MethodName)) ∈ Uw := Uw_of 433 (by decide +kernel) (by decide +kernel)
theorem uw_434 : (Jvm.Cond.instanceMethod ({ cls := "CoalHoles$Tape", name := "addBytes", desc := "(J)V" } : Jvm.MethodName)) ∈ Uw := Uw_of 434 (by decide +kernel) (by decide +kernel)
theorem uw_435 : (Jvm.Cond.selects "CoalHoles$Tape" ({ cls := "CoalHoles$Tape", name := "addBytes", desc := "(J)V" } : Jvm.MethodName) ({ cls := "CoalHoles$Tape", name := "addBytes", desc := "(J)V" } : Jvm.MethodName)) ∈ Uw := Uw_of 435 (by decide +kernel) (by decide +kernel)
theorem uw_436 : (Jvm.Cond.code ({ cls := "CoalHoles$Tape", name := "addBytes", desc := "(J)V" } : Jvm.MethodName) prog_7_method_2_code (5 : Nat) (Option.none : Option Jvm.ClassFile.FieldType)) ∈ Uw := Uw_of 436 (by decide +kernel) (by decide +kernel)
theorem uw_437 : (Jvm.Cond.constantLong "CoalHoles$Tape" (31 : Nat) (255 : Int64)) ∈ Uw := Uw_of 437 (by decide +kernel) (by decide +kernel)
theorem uw_438 : (Jvm.Cond.methodLink "CoalHolesLaw" (26 : Nat) ({ cls := "CoalHoles", name := "terrace", desc := "()I" } : Jvm.MethodName)) ∈ Uw := Uw_of 438 (by decide +kernel) (by decide +kernel)
theorem uw_439 : (Jvm.Cond.instanceMethod ({ cls := "CoalHoles", name := "terrace", desc := "()I" } : Jvm.MethodName)) ∈ Uw := Uw_of 439 (by decide +kernel) (by decide +kernel)
theorem uw_440 : (Jvm.Cond.selects "CoalHoles" ({ cls := "CoalHoles", name := "terrace", desc := "()I" } : Jvm.MethodName) ({ cls := "CoalHoles", name := "terrace", desc := "()I" } : Jvm.MethodName)) ∈ Uw := Uw_of 440 (by decide +kernel) (by decide +kernel)
theorem uw_441 : (Jvm.Cond.code ({ cls := "CoalHoles", name := "terrace", desc := "()I" } : Jvm.MethodName) prog_1_method_3_code (4 : Nat) (Option.some Jvm.ClassFile.FieldType.int)) ∈ Uw := Uw_of 441 (by decide +kernel) (by decide +kernel)
theorem uw_442 : (Jvm.Cond.methodLink "CoalHoles" (79 : Nat) ({ cls := "CoalHoles$Terrace", name := "readFrom", desc := "(LCoalHoles$Tape;)I" } : Jvm.MethodName)) ∈ Uw := Uw_of 442 (by decide +kernel) (by decide +kernel)
theorem uw_443 : (Jvm.Cond.instanceMethod ({ cls := "CoalHoles$Terrace", name := "readFrom", desc := "(LCoalHoles$Tape;)I" } : Jvm.MethodName)) ∈ Uw := Uw_of 443 (by decide +kernel) (by decide +kernel)
theorem uw_444 : (Jvm.Cond.selects "CoalHoles$Terrace" ({ cls := "CoalHoles$Terrace", name := "readFrom", desc := "(LCoalHoles$Tape;)I" } : Jvm.MethodName) ({ cls := "CoalHoles$Terrace", name := "readFrom", desc := "(LCoalHoles$Tape;)I" } : Jvm.MethodName)) ∈ Uw := Uw_of 444 (by decide +kernel) (by decide +kernel)
theorem uw_445 : (Jvm.Cond.code ({ cls := "CoalHoles$Terrace", name := "readFrom", desc := "(LCoalHoles$Tape;)I" } : Jvm.MethodName) prog_8_method_2_code (3 : Nat) (Option.some Jvm.ClassFile.FieldType.int)) ∈ Uw := Uw_of 445 (by decide +kernel) (by decide +kernel)
theorem uw_446 : (Jvm.Cond.methodLink "CoalHoles$Terrace" (56 : Nat) ({ cls := "CoalHoles$Terrace", name := "clear", desc := "()V" } : Jvm.MethodName)) ∈ Uw := Uw_of 446 (by decide +kernel) (by decide +kernel)
theorem uw_448 : (Jvm.Cond.instanceMethod ({ cls := "CoalHoles$Terrace", name := "clear", desc := "()V" } : Jvm.MethodName)) ∈ Uw := Uw_of 448 (by decide +kernel) (by decide +kernel)
theorem uw_449 : (Jvm.Cond.code ({ cls := "CoalHoles$Terrace", name := "clear", desc := "()V" } : Jvm.MethodName) prog_8_method_3_code (2 : Nat) (Option.none : Option Jvm.ClassFile.FieldType)) ∈ Uw := Uw_of 449 (by decide +kernel) (by decide +kernel)
theorem uw_450 : (Jvm.Cond.methodLink "CoalHoles$Terrace" (59 : Nat) ({ cls := "CoalHoles$Tape", name := "begin", desc := "()V" } : Jvm.MethodName)) ∈ Uw := Uw_of 450 (by decide +kernel) (by decide +kernel)
theorem uw_451 : (Jvm.Cond.instanceMethod ({ cls := "CoalHoles$Tape", name := "begin", desc := "()V" } : Jvm.MethodName)) ∈ Uw := Uw_of 451 (by decide +kernel) (by decide +kernel)
theorem uw_452 : (Jvm.Cond.selects "CoalHoles$Tape" ({ cls := "CoalHoles$Tape", name := "begin", desc := "()V" } : Jvm.MethodName) ({ cls := "CoalHoles$Tape", name := "begin", desc := "()V" } : Jvm.MethodName)) ∈ Uw := Uw_of 452 (by decide +kernel) (by decide +kernel)
theorem uw_453 : (Jvm.Cond.code ({ cls := "CoalHoles$Tape", name := "begin", desc := "()V" } : Jvm.MethodName) prog_7_method_3_code (1 : Nat) (Option.none : Option Jvm.ClassFile.FieldType)) ∈ Uw := Uw_of 453 (by decide +kernel) (by decide +kernel)
theorem uw_454 : (Jvm.Cond.methodLink "CoalHoles$Tape" (42 : Nat) ({ cls := "CoalHoles$Tape", name := "next", desc := "()V" } : Jvm.MethodName)) ∈ Uw := Uw_of 454 (by decide +kernel) (by decide +kernel)
theorem uw_455 : (Jvm.Cond.instanceMethod ({ cls := "CoalHoles$Tape", name := "next", desc := "()V" } : Jvm.MethodName)) ∈ Uw := Uw_of 455 (by decide +kernel) (by decide +kernel)
theorem uw_456 : (Jvm.Cond.selects "CoalHoles$Tape" ({ cls := "CoalHoles$Tape", name := "next", desc := "()V" } : Jvm.MethodName) ({ cls := "CoalHoles$Tape", name := "next", desc := "()V" } : Jvm.MethodName)) ∈ Uw := Uw_of 456 (by decide +kernel) (by decide +kernel)
theorem uw_457 : (Jvm.Cond.code ({ cls := "CoalHoles$Tape", name := "next", desc := "()V" } : Jvm.MethodName) prog_7_method_5_code (2 : Nat) (Option.none : Option Jvm.ClassFile.FieldType)) ∈ Uw := Uw_of 457 (by decide +kernel) (by decide +kernel)
theorem uw_458 : (Jvm.Cond.methodLink "CoalHoles$Tape" (54 : Nat) ({ cls := "CoalHoles$Tape", name := "isDigit", desc := "(I)Z" } : Jvm.MethodName)) ∈ Uw := Uw_of 458 (by decide +kernel) (by decide +kernel)
theorem uw_459 : (Jvm.Cond.static ({ cls := "CoalHoles$Tape", name := "isDigit", desc := "(I)Z" } : Jvm.MethodName)) ∈ Uw := Uw_of 459 (by decide +kernel) (by decide +kernel)
theorem uw_460 : (Jvm.Cond.code ({ cls := "CoalHoles$Tape", name := "isDigit", desc := "(I)Z" } : Jvm.MethodName) prog_7_method_9_code (1 : Nat) (Option.some Jvm.ClassFile.FieldType.boolean)) ∈ Uw := Uw_of 460 (by decide +kernel) (by decide +kernel)
theorem uw_461 : (Jvm.Cond.methodLink "CoalHoles$Tape" (58 : Nat) ({ cls := "CoalHoles$Tape", name := "takeNumber", desc := "()V" } : Jvm.MethodName)) ∈ Uw := Uw_of 461 (by decide +kernel) (by decide +kernel)
theorem uw_463 : (Jvm.Cond.instanceMethod ({ cls := "CoalHoles$Tape", name := "takeNumber", desc := "()V" } : Jvm.MethodName)) ∈ Uw := Uw_of 463 (by decide +kernel) (by decide +kernel)
theorem uw_464 : (Jvm.Cond.code ({ cls := "CoalHoles$Tape", name := "takeNumber", desc := "()V" } : Jvm.MethodName) prog_7_method_6_code (1 : Nat) (Option.none : Option Jvm.ClassFile.FieldType)) ∈ Uw := Uw_of 464 (by decide +kernel) (by decide +kernel)
theorem uw_465 : (Jvm.Cond.methodLink "CoalHoles$Tape" (61 : Nat) ({ cls := "CoalHoles$Tape", name := "isLetter", desc := "(I)Z" } : Jvm.MethodName)) ∈ Uw := Uw_of 465 (by decide +kernel) (by decide +kernel)
theorem uw_466 : (Jvm.Cond.static ({ cls := "CoalHoles$Tape", name := "isLetter", desc := "(I)Z" } : Jvm.MethodName)) ∈ Uw := Uw_of 466 (by decide +kernel) (by decide +kernel)
theorem uw_467 : (Jvm.Cond.code ({ cls := "CoalHoles$Tape", name := "isLetter", desc := "(I)Z" } : Jvm.MethodName) prog_7_method_10_code (1 : Nat) (Option.some Jvm.ClassFile.FieldType.boolean)) ∈ Uw := Uw_of 467 (by decide +kernel) (by decide +kernel)
theorem uw_468 : (Jvm.Cond.methodLink "CoalHoles$Tape" (64 : Nat) ({ cls := "CoalHoles$Tape", name := "takeWord", desc := "()V" } : Jvm.MethodName)) ∈ Uw := Uw_of 468 (by decide +kernel) (by decide +kernel)
theorem uw_470 : (Jvm.Cond.instanceMethod ({ cls := "CoalHoles$Tape", name := "takeWord", desc := "()V" } : Jvm.MethodName)) ∈ Uw := Uw_of 470 (by decide +kernel) (by decide +kernel)
theorem uw_471 : (Jvm.Cond.code ({ cls := "CoalHoles$Tape", name := "takeWord", desc := "()V" } : Jvm.MethodName) prog_7_method_7_code (1 : Nat) (Option.none : Option Jvm.ClassFile.FieldType)) ∈ Uw := Uw_of 471 (by decide +kernel) (by decide +kernel)
theorem uw_472 : (Jvm.Cond.methodLink "CoalHoles$Tape" (74 : Nat) ({ cls := "CoalHoles$Tape", name := "wordToken", desc := "()I" } : Jvm.MethodName)) ∈ Uw := Uw_of 472 (by decide +kernel) (by decide +kernel)
theorem uw_474 : (Jvm.Cond.instanceMethod ({ cls := "CoalHoles$Tape", name := "wordToken", desc := "()I" } : Jvm.MethodName)) ∈ Uw := Uw_of 474 (by decide +kernel) (by decide +kernel)
theorem uw_475 : (Jvm.Cond.code ({ cls := "CoalHoles$Tape", name := "wordToken", desc := "()I" } : Jvm.MethodName) prog_7_method_8_code (2 : Nat) (Option.some Jvm.ClassFile.FieldType.int)) ∈ Uw := Uw_of 475 (by decide +kernel) (by decide +kernel)
theorem uw_476 : (Jvm.Cond.methodLink "CoalHoles$Terrace" (64 : Nat) ({ cls := "CoalHoles$Tape", name := "isAtEnd", desc := "()Z" } : Jvm.MethodName)) ∈ Uw := Uw_of 476 (by decide +kernel) (by decide +kernel)
theorem uw_477 : (Jvm.Cond.instanceMethod ({ cls := "CoalHoles$Tape", name := "isAtEnd", desc := "()Z" } : Jvm.MethodName)) ∈ Uw := Uw_of 477 (by decide +kernel) (by decide +kernel)
theorem uw_478 : (Jvm.Cond.selects "CoalHoles$Tape" ({ cls := "CoalHoles$Tape", name := "isAtEnd", desc := "()Z" } : Jvm.MethodName) ({ cls := "CoalHoles$Tape", name := "isAtEnd", desc := "()Z" } : Jvm.MethodName)) ∈ Uw := Uw_of 478 (by decide +kernel) (by decide +kernel)
theorem uw_479 : (Jvm.Cond.code ({ cls := "CoalHoles$Tape", name := "isAtEnd", desc := "()Z" } : Jvm.MethodName) prog_7_method_4_code (1 : Nat) (Option.some Jvm.ClassFile.FieldType.boolean)) ∈ Uw := Uw_of 479 (by decide +kernel) (by decide +kernel)
theorem uw_480 : (Jvm.Cond.methodLink "CoalHoles$Terrace" (72 : Nat) ({ cls := "CoalHoles$Terrace", name := "readHole", desc := "(LCoalHoles$Tape;)V" } : Jvm.MethodName)) ∈ Uw := Uw_of 480 (by decide +kernel) (by decide +kernel)
theorem uw_482 : (Jvm.Cond.instanceMethod ({ cls := "CoalHoles$Terrace", name := "readHole", desc := "(LCoalHoles$Tape;)V" } : Jvm.MethodName)) ∈ Uw := Uw_of 482 (by decide +kernel) (by decide +kernel)
theorem uw_483 : (Jvm.Cond.code ({ cls := "CoalHoles$Terrace", name := "readHole", desc := "(LCoalHoles$Tape;)V" } : Jvm.MethodName) prog_8_method_4_code (2 : Nat) (Option.none : Option Jvm.ClassFile.FieldType)) ∈ Uw := Uw_of 483 (by decide +kernel) (by decide +kernel)
theorem uw_484 : (Jvm.Cond.methodLink "CoalHoles$Terrace" (94 : Nat) ({ cls := "CoalHoles$Tape", name := "refuse", desc := "(I)V" } : Jvm.MethodName)) ∈ Uw := Uw_of 484 (by decide +kernel) (by decide +kernel)
theorem uw_485 : (Jvm.Cond.instanceMethod ({ cls := "CoalHoles$Tape", name := "refuse", desc := "(I)V" } : Jvm.MethodName)) ∈ Uw := Uw_of 485 (by decide +kernel) (by decide +kernel)
theorem uw_486 : (Jvm.Cond.selects "CoalHoles$Tape" ({ cls := "CoalHoles$Tape", name := "refuse", desc := "(I)V" } : Jvm.MethodName) ({ cls := "CoalHoles$Tape", name := "refuse", desc := "(I)V" } : Jvm.MethodName)) ∈ Uw := Uw_of 486 (by decide +kernel) (by decide +kernel)
theorem uw_487 : (Jvm.Cond.code ({ cls := "CoalHoles$Tape", name := "refuse", desc := "(I)V" } : Jvm.MethodName) prog_7_method_11_code (2 : Nat) (Option.none : Option Jvm.ClassFile.FieldType)) ∈ Uw := Uw_of 487 (by decide +kernel) (by decide +kernel)
theorem uw_488 : (Jvm.Cond.methodLink "CoalHoles$Terrace" (120 : Nat) ({ cls := "CoalHoles$Tape", name := "next", desc := "()V" } : Jvm.MethodName)) ∈ Uw := Uw_of 488 (by decide +kernel) (by decide +kernel)
theorem uw_489 : (Jvm.Cond.methodLink "CoalHoles$Terrace" (123 : Nat) ({ cls := "CoalHoles$Terrace", name := "readNewName", desc := "(LCoalHoles$Tape;)J" } : Jvm.MethodName)) ∈ Uw := Uw_of 489 (by decide +kernel) (by decide +kernel)
theorem uw_491 : (Jvm.Cond.instanceMethod ({ cls := "CoalHoles$Terrace", name := "readNewName", desc := "(LCoalHoles$Tape;)J" } : Jvm.MethodName)) ∈ Uw := Uw_of 491 (by decide +kernel) (by decide +kernel)
theorem uw_492 : (Jvm.Cond.code ({ cls := "CoalHoles$Terrace", name := "readNewName", desc := "(LCoalHoles$Tape;)J" } : Jvm.MethodName) prog_8_method_11_code (4 : Nat) (Option.some Jvm.ClassFile.FieldType.long)) ∈ Uw := Uw_of 492 (by decide +kernel) (by decide +kernel)
theorem uw_493 : (Jvm.Cond.methodLink "CoalHoles$Terrace" (145 : Nat) ({ cls := "CoalHoles$Tape", name := "expectName", desc := "()J" } : Jvm.MethodName)) ∈ Uw := Uw_of 493 (by decide +kernel) (by decide +kernel)
theorem uw_494 : (Jvm.Cond.instanceMethod ({ cls := "CoalHoles$Tape", name := "expectName", desc := "()J" } : Jvm.MethodName)) ∈ Uw := Uw_of 494 (by decide +kernel) (by decide +kernel)
theorem uw_495 : (Jvm.Cond.selects "CoalHoles$Tape" ({ cls := "CoalHoles$Tape", name := "expectName", desc := "()J" } : Jvm.MethodName) ({ cls := "CoalHoles$Tape", name := "expectName", desc := "()J" } : Jvm.MethodName)) ∈ Uw := Uw_of 495 (by decide +kernel) (by decide +kernel)
theorem uw_496 : (Jvm.Cond.code ({ cls := "CoalHoles$Tape", name := "expectName", desc := "()J" } : Jvm.MethodName) prog_7_method_15_code (3 : Nat) (Option.some Jvm.ClassFile.FieldType.long)) ∈ Uw := Uw_of 496 (by decide +kernel) (by decide +kernel)
theorem uw_498 : (Jvm.Cond.static ({ cls := "CoalHoles", name := "isFact", desc := "(I)Z" } : Jvm.MethodName)) ∈ Uw := Uw_of 498 (by decide +kernel) (by decide +kernel)
theorem uw_499 : (Jvm.Cond.code ({ cls := "CoalHoles", name := "isFact", desc := "(I)Z" } : Jvm.MethodName) prog_1_method_32_code (1 : Nat) (Option.some Jvm.ClassFile.FieldType.boolean)) ∈ Uw := Uw_of 499 (by decide +kernel) (by decide +kernel)
theorem uw_500 : (Jvm.Cond.methodLink "CoalHoles" (199 : Nat) ({ cls := "CoalHoles", name := "isWithin", desc := "(III)Z" } : Jvm.MethodName)) ∈ Uw := Uw_of 500 (by decide +kernel) (by decide +kernel)
theorem uw_501 : (Jvm.Cond.static ({ cls := "CoalHoles", name := "isWithin", desc := "(III)Z" } : Jvm.MethodName)) ∈ Uw := Uw_of 501 (by decide +kernel) (by decide +kernel)
theorem uw_502 : (Jvm.Cond.code ({ cls := "CoalHoles", name := "isWithin", desc := "(III)Z" } : Jvm.MethodName) prog_1_method_31_code (3 : Nat) (Option.some Jvm.ClassFile.FieldType.boolean)) ∈ Uw := Uw_of 502 (by decide +kernel) (by decide +kernel)
theorem uw_503 : (Jvm.Cond.methodLink "CoalHoles$Tape" (77 : Nat) ({ cls := "CoalHoles$Tape", name := "refuse", desc := "(I)V" } : Jvm.MethodName)) ∈ Uw := Uw_of 503 (by decide +kernel) (by decide +kernel)
theorem uw_504 : (Jvm.Cond.methodLink "CoalHoles$Terrace" (149 : Nat) ({ cls := "CoalHoles$Terrace", name := "indexOf", desc := "([JIJ)I" } : Jvm.MethodName)) ∈ Uw := Uw_of 504 (by decide +kernel) (by decide +kernel)
theorem uw_505 : (Jvm.Cond.static ({ cls := "CoalHoles$Terrace", name := "indexOf", desc := "([JIJ)I" } : Jvm.MethodName)) ∈ Uw := Uw_of 505 (by decide +kernel) (by decide +kernel)
theorem uw_506 : (Jvm.Cond.code ({ cls := "CoalHoles$Terrace", name := "indexOf", desc := "([JIJ)I" } : Jvm.MethodName) prog_8_method_15_code (5 : Nat) (Option.some Jvm.ClassFile.FieldType.int)) ∈ Uw := Uw_of 506 (by decide +kernel) (by decide +kernel)
theorem uw_507 : (Jvm.Cond.methodLink "CoalHoles$Terrace" (135 : Nat) ({ cls := "CoalHoles$Tape", name := "refuseTaken", desc := "(I)V" } : Jvm.MethodName)) ∈ Uw := Uw_of 507 (by decide +kernel) (by decide +kernel)
theorem uw_508 : (Jvm.Cond.instanceMethod ({ cls := "CoalHoles$Tape", name := "refuseTaken", desc := "(I)V" } : Jvm.MethodName)) ∈ Uw := Uw_of 508 (by decide +kernel) (by decide +kernel)
theorem uw_509 : (Jvm.Cond.selects "CoalHoles$Tape" ({ cls := "CoalHoles$Tape", name := "refuseTaken", desc := "(I)V" } : Jvm.MethodName) ({ cls := "CoalHoles$Tape", name := "refuseTaken", desc := "(I)V" } : Jvm.MethodName)) ∈ Uw := Uw_of 509 (by decide +kernel) (by decide +kernel)
theorem uw_510 : (Jvm.Cond.code ({ cls := "CoalHoles$Tape", name := "refuseTaken", desc := "(I)V" } : Jvm.MethodName) prog_7_method_12_code (2 : Nat) (Option.none : Option Jvm.ClassFile.FieldType)) ∈ Uw := Uw_of 510 (by decide +kernel) (by decide +kernel)
theorem uw_511 : (Jvm.Cond.methodLink "CoalHoles$Terrace" (98 : Nat) ({ cls := "CoalHoles$Tape", name := "expect", desc := "(I)V" } : Jvm.MethodName)) ∈ Uw := Uw_of 511 (by decide +kernel) (by decide +kernel)
theorem uw_512 : (Jvm.Cond.instanceMethod ({ cls := "CoalHoles$Tape", name := "expect", desc := "(I)V" } : Jvm.MethodName)) ∈ Uw := Uw_of 512 (by decide +kernel) (by decide +kernel)
theorem uw_513 : (Jvm.Cond.selects "CoalHoles$Tape" ({ cls := "CoalHoles$Tape", name := "expect", desc := "(I)V" } : Jvm.MethodName) ({ cls := "CoalHoles$Tape", name := "expect", desc := "(I)V" } : Jvm.MethodName)) ∈ Uw := Uw_of 513 (by decide +kernel) (by decide +kernel)
theorem uw_514 : (Jvm.Cond.code ({ cls := "CoalHoles$Tape", name := "expect", desc := "(I)V" } : Jvm.MethodName) prog_7_method_13_code (2 : Nat) (Option.none : Option Jvm.ClassFile.FieldType)) ∈ Uw := Uw_of 514 (by decide +kernel) (by decide +kernel)
theorem uw_515 : (Jvm.Cond.methodLink "CoalHoles$Terrace" (127 : Nat) ({ cls := "CoalHoles$Tape", name := "expectNumber", desc := "(II)I" } : Jvm.MethodName)) ∈ Uw := Uw_of 515 (by decide +kernel) (by decide +kernel)
theorem uw_516 : (Jvm.Cond.instanceMethod ({ cls := "CoalHoles$Tape", name := "expectNumber", desc := "(II)I" } : Jvm.MethodName)) ∈ Uw := Uw_of 516 (by decide +kernel) (by decide +kernel)
theorem uw_517 : (Jvm.Cond.selects "CoalHoles$Tape" ({ cls := "CoalHoles$Tape", name := "expectNumber", desc := "(II)I" } : Jvm.MethodName) ({ cls := "CoalHoles$Tape", name := "expectNumber", desc := "(II)I" } : Jvm.MethodName)) ∈ Uw := Uw_of 517 (by decide +kernel) (by decide +kernel)
theorem uw_518 : (Jvm.Cond.code ({ cls := "CoalHoles$Tape", name := "expectNumber", desc := "(II)I" } : Jvm.MethodName) prog_7_method_14_code (4 : Nat) (Option.some Jvm.ClassFile.FieldType.int)) ∈ Uw := Uw_of 518 (by decide +kernel) (by decide +kernel)
theorem uw_519 : (Jvm.Cond.methodLink "CoalHoles$Tape" (81 : Nat) ({ cls := "CoalHoles$Tape", name := "expect", desc := "(I)V" } : Jvm.MethodName)) ∈ Uw := Uw_of 519 (by decide +kernel) (by decide +kernel)
theorem uw_521 : (Jvm.Cond.methodLink "CoalHoles$Tape" (88 : Nat) ({ cls := "CoalHoles$Tape", name := "refuseTaken", desc := "(I)V" } : Jvm.MethodName)) ∈ Uw := Uw_of 521 (by decide +kernel) (by decide +kernel)
theorem uw_522 : (Jvm.Cond.methodLink "CoalHoles$Terrace" (76 : Nat) ({ cls := "CoalHoles$Terrace", name := "readWall", desc := "(LCoalHoles$Tape;)V" } : Jvm.MethodName)) ∈ Uw := Uw_of 522 (by decide +kernel) (by decide +kernel)
theorem uw_524 : (Jvm.Cond.instanceMethod ({ cls := "CoalHoles$Terrace", name := "readWall", desc := "(LCoalHoles$Tape;)V" } : Jvm.MethodName)) ∈ Uw := Uw_of 524 (by decide +kernel) (by decide +kernel)
theorem uw_525 : (Jvm.Cond.code ({ cls := "CoalHoles$Terrace", name := "readWall", desc := "(LCoalHoles$Tape;)V" } : Jvm.MethodName) prog_8_method_5_code (4 : Nat) (Option.none : Option Jvm.ClassFile.FieldType)) ∈ Uw := Uw_of 525 (by decide +kernel) (by decide +kernel)
theorem uw_526 : (Jvm.Cond.methodLink "CoalHoles$Terrace" (131 : Nat) ({ cls := "CoalHoles$Terrace", name := "readHoleName", desc := "(LCoalHoles$Tape;)I" } : Jvm.MethodName)) ∈ Uw := Uw_of 526 (by decide +kernel) (by decide +kernel)
theorem uw_527 : (Jvm.Cond.instanceMethod ({ cls := "CoalHoles$Terrace", name := "readHoleName", desc := "(LCoalHoles$Tape;)I" } : Jvm.MethodName)) ∈ Uw := Uw_of 527 (by decide +kernel) (by decide +kernel)
theorem uw_528 : (Jvm.Cond.selects "CoalHoles$Terrace" ({ cls := "CoalHoles$Terrace", name := "readHoleName", desc := "(LCoalHoles$Tape;)I" } : Jvm.MethodName) ({ cls := "CoalHoles$Terrace", name := "readHoleName", desc := "(LCoalHoles$Tape;)I" } : Jvm.MethodName)) ∈ Uw := Uw_of 528 (by decide +kernel) (by decide +kernel)
theorem uw_529 : (Jvm.Cond.code ({ cls := "CoalHoles$Terrace", name := "readHoleName", desc := "(LCoalHoles$Tape;)I" } : Jvm.MethodName) prog_8_method_12_code (2 : Nat) (Option.some Jvm.ClassFile.FieldType.int)) ∈ Uw := Uw_of 529 (by decide +kernel) (by decide +kernel)
theorem uw_530 : (Jvm.Cond.methodLink "CoalHoles$Terrace" (153 : Nat) ({ cls := "CoalHoles$Terrace", name := "known", desc := "(LCoalHoles$Tape;I)I" } : Jvm.MethodName)) ∈ Uw := Uw_of 530 (by decide +kernel) (by decide +kernel)
theorem uw_531 : (Jvm.Cond.static ({ cls := "CoalHoles$Terrace", name := "known", desc := "(LCoalHoles$Tape;I)I" } : Jvm.MethodName)) ∈ Uw := Uw_of 531 (by decide +kernel) (by decide +kernel)
theorem uw_532 : (Jvm.Cond.code ({ cls := "CoalHoles$Terrace", name := "known", desc := "(LCoalHoles$Tape;I)I" } : Jvm.MethodName) prog_8_method_14_code (2 : Nat) (Option.some Jvm.ClassFile.FieldType.int)) ∈ Uw := Uw_of 532 (by decide +kernel) (by decide +kernel)
theorem uw_533 : (Jvm.Cond.methodLink "CoalHoles$Terrace" (79 : Nat) ({ cls := "CoalHoles$Terrace", name := "readGuest", desc := "(LCoalHoles$Tape;)V" } : Jvm.MethodName)) ∈ Uw := Uw_of 533 (by decide +kernel) (by decide +kernel)
theorem uw_535 : (Jvm.Cond.instanceMethod ({ cls := "CoalHoles$Terrace", name := "readGuest", desc := "(LCoalHoles$Tape;)V" } : Jvm.MethodName)) ∈ Uw := Uw_of 535 (by decide +kernel) (by decide +kernel)
theorem uw_536 : (Jvm.Cond.code ({ cls := "CoalHoles$Terrace", name := "readGuest", desc := "(LCoalHoles$Tape;)V" } : Jvm.MethodName) prog_8_method_6_code (2 : Nat) (Option.none : Option Jvm.ClassFile.FieldType)) ∈ Uw := Uw_of 536 (by decide +kernel) (by decide +kernel)
theorem uw_538 : (Jvm.Cond.methodLink "CoalHoles$Terrace" (82 : Nat) ({ cls := "CoalHoles$Terrace", name := "readWar", desc := "(LCoalHoles$Tape;)V" } : Jvm.MethodName)) ∈ Uw := Uw_of 538 (by decide +kernel) (by decide +kernel)
theorem uw_540 : (Jvm.Cond.instanceMethod ({ cls := "CoalHoles$Terrace", name := "readWar", desc := "(LCoalHoles$Tape;)V" } : Jvm.MethodName)) ∈ Uw := Uw_of 540 (by decide +kernel) (by decide +kernel)
theorem uw_541 : (Jvm.Cond.code ({ cls := "CoalHoles$Terrace", name := "readWar", desc := "(LCoalHoles$Tape;)V" } : Jvm.MethodName) prog_8_method_7_code (4 : Nat) (Option.none : Option Jvm.ClassFile.FieldType)) ∈ Uw := Uw_of 541 (by decide +kernel) (by decide +kernel)
theorem uw_542 : (Jvm.Cond.methodLink "CoalHoles$Terrace" (85 : Nat) ({ cls := "CoalHoles$Terrace", name := "readCold", desc := "(LCoalHoles$Tape;)V" } : Jvm.MethodName)) ∈ Uw := Uw_of 542 (by decide +kernel) (by decide +kernel)
theorem uw_544 : (Jvm.Cond.instanceMethod ({ cls := "CoalHoles$Terrace", name := "readCold", desc := "(LCoalHoles$Tape;)V" } : Jvm.MethodName)) ∈ Uw := Uw_of 544 (by decide +kernel) (by decide +kernel)
theorem uw_545 : (Jvm.Cond.code ({ cls := "CoalHoles$Terrace", name := "readCold", desc := "(LCoalHoles$Tape;)V" } : Jvm.MethodName) prog_8_method_8_code (4 : Nat) (Option.none : Option Jvm.ClassFile.FieldType)) ∈ Uw := Uw_of 545 (by decide +kernel) (by decide +kernel)
theorem uw_546 : (Jvm.Cond.methodLink "CoalHoles$Terrace" (88 : Nat) ({ cls := "CoalHoles$Terrace", name := "readSack", desc := "(LCoalHoles$Tape;)V" } : Jvm.MethodName)) ∈ Uw := Uw_of 546 (by decide +kernel) (by decide +kernel)
theorem uw_548 : (Jvm.Cond.instanceMethod ({ cls := "CoalHoles$Terrace", name := "readSack", desc := "(LCoalHoles$Tape;)V" } : Jvm.MethodName)) ∈ Uw := Uw_of 548 (by decide +kernel) (by decide +kernel)
theorem uw_549 : (Jvm.Cond.code ({ cls := "CoalHoles$Terrace", name := "readSack", desc := "(LCoalHoles$Tape;)V" } : Jvm.MethodName) prog_8_method_9_code (2 : Nat) (Option.none : Option Jvm.ClassFile.FieldType)) ∈ Uw := Uw_of 549 (by decide +kernel) (by decide +kernel)
theorem uw_550 : (Jvm.Cond.methodLink "CoalHoles$Terrace" (91 : Nat) ({ cls := "CoalHoles$Terrace", name := "readTakes", desc := "(LCoalHoles$Tape;)V" } : Jvm.MethodName)) ∈ Uw := Uw_of 550 (by decide +kernel) (by decide +kernel)
theorem uw_552 : (Jvm.Cond.instanceMethod ({ cls := "CoalHoles$Terrace", name := "readTakes", desc := "(LCoalHoles$Tape;)V" } : Jvm.MethodName)) ∈ Uw := Uw_of 552 (by decide +kernel) (by decide +kernel)
theorem uw_553 : (Jvm.Cond.code ({ cls := "CoalHoles$Terrace", name := "readTakes", desc := "(LCoalHoles$Tape;)V" } : Jvm.MethodName) prog_8_method_10_code (2 : Nat) (Option.none : Option Jvm.ClassFile.FieldType)) ∈ Uw := Uw_of 553 (by decide +kernel) (by decide +kernel)
theorem uw_554 : (Jvm.Cond.methodLink "CoalHoles$Terrace" (142 : Nat) ({ cls := "CoalHoles$Law", name := "readFrom", desc := "(LCoalHoles$Tape;)V" } : Jvm.MethodName)) ∈ Uw := Uw_of 554 (by decide +kernel) (by decide +kernel)
theorem uw_555 : (Jvm.Cond.instanceMethod ({ cls := "CoalHoles$Law", name := "readFrom", desc := "(LCoalHoles$Tape;)V" } : Jvm.MethodName)) ∈ Uw := Uw_of 555 (by decide +kernel) (by decide +kernel)
theorem uw_556 : (Jvm.Cond.selects "CoalHoles$Law" ({ cls := "CoalHoles$Law", name := "readFrom", desc := "(LCoalHoles$Tape;)V" } : Jvm.MethodName) ({ cls := "CoalHoles$Law", name := "readFrom", desc := "(LCoalHoles$Tape;)V" } : Jvm.MethodName)) ∈ Uw := Uw_of 556 (by decide +kernel) (by decide +kernel)
theorem uw_557 : (Jvm.Cond.code ({ cls := "CoalHoles$Law", name := "readFrom", desc := "(LCoalHoles$Tape;)V" } : Jvm.MethodName) prog_3_method_2_code (4 : Nat) (Option.none : Option Jvm.ClassFile.FieldType)) ∈ Uw := Uw_of 557 (by decide +kernel) (by decide +kernel)
theorem uw_558 : (Jvm.Cond.methodLink "CoalHoles$Law" (30 : Nat) ({ cls := "CoalHoles$Law", name := "readPart", desc := "(LCoalHoles$Tape;)Z" } : Jvm.MethodName)) ∈ Uw := Uw_of 558 (by decide +kernel) (by decide +kernel)
theorem uw_560 : (Jvm.Cond.instanceMethod ({ cls := "CoalHoles$Law", name := "readPart", desc := "(LCoalHoles$Tape;)Z" } : Jvm.MethodName)) ∈ Uw := Uw_of 560 (by decide +kernel) (by decide +kernel)
theorem uw_561 : (Jvm.Cond.code ({ cls := "CoalHoles$Law", name := "readPart", desc := "(LCoalHoles$Tape;)Z" } : Jvm.MethodName) prog_3_method_3_code (4 : Nat) (Option.some Jvm.ClassFile.FieldType.boolean)) ∈ Uw := Uw_of 561 (by decide +kernel) (by decide +kernel)
theorem uw_563 : (Jvm.Cond.methodLink "CoalHoles$Law" (52 : Nat) ({ cls := "CoalHoles$Tape", name := "refuse", desc := "(I)V" } : Jvm.MethodName)) ∈ Uw := Uw_of 563 (by decide +kernel) (by decide +kernel)
theorem uw_564 : (Jvm.Cond.methodLink "CoalHoles$Law" (58 : Nat) ({ cls := "CoalHoles$Law", name := "emit", desc := "(I)V" } : Jvm.MethodName)) ∈ Uw := Uw_of 564 (by decide +kernel) (by decide +kernel)
theorem uw_566 : (Jvm.Cond.instanceMethod ({ cls := "CoalHoles$Law", name := "emit", desc := "(I)V" } : Jvm.MethodName)) ∈ Uw := Uw_of 566 (by decide +kernel) (by decide +kernel)
theorem uw_567 : (Jvm.Cond.code ({ cls := "CoalHoles$Law", name := "emit", desc := "(I)V" } : Jvm.MethodName) prog_3_method_9_code (2 : Nat) (Option.none : Option Jvm.ClassFile.FieldType)) ∈ Uw := Uw_of 567 (by decide +kernel) (by decide +kernel)
theorem uw_568 : (Jvm.Cond.methodLink "CoalHoles$Law" (61 : Nat) ({ cls := "CoalHoles$Law", name := "closeNots", desc := "()V" } : Jvm.MethodName)) ∈ Uw := Uw_of 568 (by decide +kernel) (by decide +kernel)
theorem uw_570 : (Jvm.Cond.instanceMethod ({ cls := "CoalHoles$Law", name := "closeNots", desc := "()V" } : Jvm.MethodName)) ∈ Uw := Uw_of 570 (by decide +kernel) (by decide +kernel)
theorem uw_571 : (Jvm.Cond.code ({ cls := "CoalHoles$Law", name := "closeNots", desc := "()V" } : Jvm.MethodName) prog_3_method_6_code (1 : Nat) (Option.none : Option Jvm.ClassFile.FieldType)) ∈ Uw := Uw_of 571 (by decide +kernel) (by decide +kernel)
theorem uw_572 : (Jvm.Cond.methodLink "CoalHoles$Law" (64 : Nat) ({ cls := "CoalHoles$Law", name := "push", desc := "(I)V" } : Jvm.MethodName)) ∈ Uw := Uw_of 572 (by decide +kernel) (by decide +kernel)
theorem uw_574 : (Jvm.Cond.instanceMethod ({ cls := "CoalHoles$Law", name := "push", desc := "(I)V" } : Jvm.MethodName)) ∈ Uw := Uw_of 574 (by decide +kernel) (by decide +kernel)
theorem uw_575 : (Jvm.Cond.code ({ cls := "CoalHoles$Law", name := "push", desc := "(I)V" } : Jvm.MethodName) prog_3_method_10_code (2 : Nat) (Option.none : Option Jvm.ClassFile.FieldType)) ∈ Uw := Uw_of 575 (by decide +kernel) (by decide +kernel)
theorem uw_576 : (Jvm.Cond.methodLink "CoalHoles$Law" (67 : Nat) ({ cls := "CoalHoles$Tape", name := "next", desc := "()V" } : Jvm.MethodName)) ∈ Uw := Uw_of 576 (by decide +kernel) (by decide +kernel)
theorem uw_577 : (Jvm.Cond.methodLink "CoalHoles$Law" (37 : Nat) ({ cls := "CoalHoles$Law", name := "closeBracket", desc := "(LCoalHoles$Tape;)V" } : Jvm.MethodName)) ∈ Uw := Uw_of 577 (by decide +kernel) (by decide +kernel)
theorem uw_579 : (Jvm.Cond.instanceMethod ({ cls := "CoalHoles$Law", name := "closeBracket", desc := "(LCoalHoles$Tape;)V" } : Jvm.MethodName)) ∈ Uw := Uw_of 579 (by decide +kernel) (by decide +kernel)
theorem uw_580 : (Jvm.Cond.code ({ cls := "CoalHoles$Law", name := "closeBracket", desc := "(LCoalHoles$Tape;)V" } : Jvm.MethodName) prog_3_method_5_code (2 : Nat) (Option.none : Option Jvm.ClassFile.FieldType)) ∈ Uw := Uw_of 580 (by decide +kernel) (by decide +kernel)
theorem uw_581 : (Jvm.Cond.methodLink "CoalHoles$Law" (44 : Nat) ({ cls := "CoalHoles$Law", name := "emitDownTo", desc := "(I)V" } : Jvm.MethodName)) ∈ Uw := Uw_of 581 (by decide +kernel) (by decide +kernel)
theorem uw_583 : (Jvm.Cond.instanceMethod ({ cls := "CoalHoles$Law", name := "emitDownTo", desc := "(I)V" } : Jvm.MethodName)) ∈ Uw := Uw_of 583 (by decide +kernel) (by decide +kernel)
theorem uw_584 : (Jvm.Cond.code ({ cls := "CoalHoles$Law", name := "emitDownTo", desc := "(I)V" } : Jvm.MethodName) prog_3_method_7_code (2 : Nat) (Option.none : Option Jvm.ClassFile.FieldType)) ∈ Uw := Uw_of 584 (by decide +kernel) (by decide +kernel)
theorem uw_585 : (Jvm.Cond.methodLink "CoalHoles$Law" (70 : Nat) ({ cls := "CoalHoles$Law", name := "rankOf", desc := "(I)I" } : Jvm.MethodName)) ∈ Uw := Uw_of 585 (by decide +kernel) (by decide +kernel)
theorem uw_586 : (Jvm.Cond.static ({ cls := "CoalHoles$Law", name := "rankOf", desc := "(I)I" } : Jvm.MethodName)) ∈ Uw := Uw_of 586 (by decide +kernel) (by decide +kernel)
theorem uw_587 : (Jvm.Cond.code ({ cls := "CoalHoles$Law", name := "rankOf", desc := "(I)I" } : Jvm.MethodName) prog_3_method_8_code (1 : Nat) (Option.some Jvm.ClassFile.FieldType.int)) ∈ Uw := Uw_of 587 (by decide +kernel) (by decide +kernel)
theorem uw_588 : (Jvm.Cond.methodLink "CoalHoles$Law" (74 : Nat) ({ cls := "CoalHoles$Law", name := "pop", desc := "()I" } : Jvm.MethodName)) ∈ Uw := Uw_of 588 (by decide +kernel) (by decide +kernel)
theorem uw_590 : (Jvm.Cond.instanceMethod ({ cls := "CoalHoles$Law", name := "pop", desc := "()I" } : Jvm.MethodName)) ∈ Uw := Uw_of 590 (by decide +kernel) (by decide +kernel)
theorem uw_591 : (Jvm.Cond.code ({ cls := "CoalHoles$Law", name := "pop", desc := "()I" } : Jvm.MethodName) prog_3_method_11_code (1 : Nat) (Option.some Jvm.ClassFile.FieldType.int)) ∈ Uw := Uw_of 591 (by decide +kernel) (by decide +kernel)
theorem uw_592 : (Jvm.Cond.methodLink "CoalHoles$Law" (41 : Nat) ({ cls := "CoalHoles$Law", name := "readOperator", desc := "(LCoalHoles$Tape;)V" } : Jvm.MethodName)) ∈ Uw := Uw_of 592 (by decide +kernel) (by decide +kernel)
theorem uw_594 : (Jvm.Cond.instanceMethod ({ cls := "CoalHoles$Law", name := "readOperator", desc := "(LCoalHoles$Tape;)V" } : Jvm.MethodName)) ∈ Uw := Uw_of 594 (by decide +kernel) (by decide +kernel)
theorem uw_595 : (Jvm.Cond.code ({ cls := "CoalHoles$Law", name := "readOperator", desc := "(LCoalHoles$Tape;)V" } : Jvm.MethodName) prog_3_method_4_code (3 : Nat) (Option.none : Option Jvm.ClassFile.FieldType)) ∈ Uw := Uw_of 595 (by decide +kernel) (by decide +kernel)
theorem uw_596 : (Jvm.Cond.methodLink "CoalHoles" (83 : Nat) ({ cls := "CoalHoles$State", name := "beginAt", desc := "(LCoalHoles$Terrace;)V" } : Jvm.MethodName)) ∈ Uw := Uw_of 596 (by decide +kernel) (by decide +kernel)
theorem uw_597 : (Jvm.Cond.instanceMethod ({ cls := "CoalHoles$State", name := "beginAt", desc := "(LCoalHoles$Terrace;)V" } : Jvm.MethodName)) ∈ Uw := Uw_of 597 (by decide +kernel) (by decide +kernel)
theorem uw_598 : (Jvm.Cond.selects "CoalHoles$State" ({ cls := "CoalHoles$State", name := "beginAt", desc := "(LCoalHoles$Terrace;)V" } : Jvm.MethodName) ({ cls := "CoalHoles$State", name := "beginAt", desc := "(LCoalHoles$Terrace;)V" } : Jvm.MethodName)) ∈ Uw := Uw_of 598 (by decide +kernel) (by decide +kernel)
theorem uw_599 : (Jvm.Cond.code ({ cls := "CoalHoles$State", name := "beginAt", desc := "(LCoalHoles$Terrace;)V" } : Jvm.MethodName) prog_6_method_2_code (3 : Nat) (Option.none : Option Jvm.ClassFile.FieldType)) ∈ Uw := Uw_of 599 (by decide +kernel) (by decide +kernel)
theorem uw_600 : (Jvm.Cond.methodLink "CoalHolesLaw" (31 : Nat) ({ cls := "CoalHoles", name := "winter", desc := "()I" } : Jvm.MethodName)) ∈ Uw := Uw_of 600 (by decide +kernel) (by decide +kernel)
theorem uw_601 : (Jvm.Cond.instanceMethod ({ cls := "CoalHoles", name := "winter", desc := "()I" } : Jvm.MethodName)) ∈ Uw := Uw_of 601 (by decide +kernel) (by decide +kernel)
theorem uw_602 : (Jvm.Cond.selects "CoalHoles" ({ cls := "CoalHoles", name := "winter", desc := "()I" } : Jvm.MethodName) ({ cls := "CoalHoles", name := "winter", desc := "()I" } : Jvm.MethodName)) ∈ Uw := Uw_of 602 (by decide +kernel) (by decide +kernel)
theorem uw_603 : (Jvm.Cond.code ({ cls := "CoalHoles", name := "winter", desc := "()I" } : Jvm.MethodName) prog_1_method_4_code (3 : Nat) (Option.some Jvm.ClassFile.FieldType.int)) ∈ Uw := Uw_of 603 (by decide +kernel) (by decide +kernel)
theorem uw_604 : (Jvm.Cond.methodLink "CoalHoles" (100 : Nat) ({ cls := "CoalHoles$Winter", name := "readFrom", desc := "(LCoalHoles$Tape;LCoalHoles$Terrace;)I" } : Jvm.MethodName)) ∈ Uw := Uw_of 604 (by decide +kernel) (by decide +kernel)
theorem uw_605 : (Jvm.Cond.instanceMethod ({ cls := "CoalHoles$Winter", name := "readFrom", desc := "(LCoalHoles$Tape;LCoalHoles$Terrace;)I" } : Jvm.MethodName)) ∈ Uw := Uw_of 605 (by decide +kernel) (by decide +kernel)
theorem uw_606 : (Jvm.Cond.selects "CoalHoles$Winter" ({ cls := "CoalHoles$Winter", name := "readFrom", desc := "(LCoalHoles$Tape;LCoalHoles$Terrace;)I" } : Jvm.MethodName) ({ cls := "CoalHoles$Winter", name := "readFrom", desc := "(LCoalHoles$Tape;LCoalHoles$Terrace;)I" } : Jvm.MethodName)) ∈ Uw := Uw_of 606 (by decide +kernel) (by decide +kernel)
theorem uw_607 : (Jvm.Cond.code ({ cls := "CoalHoles$Winter", name := "readFrom", desc := "(LCoalHoles$Tape;LCoalHoles$Terrace;)I" } : Jvm.MethodName) prog_9_method_2_code (4 : Nat) (Option.some Jvm.ClassFile.FieldType.int)) ∈ Uw := Uw_of 607 (by decide +kernel) (by decide +kernel)
theorem uw_608 : (Jvm.Cond.methodLink "CoalHoles$Winter" (26 : Nat) ({ cls := "CoalHoles$Tape", name := "begin", desc := "()V" } : Jvm.MethodName)) ∈ Uw := Uw_of 608 (by decide +kernel) (by decide +kernel)
theorem uw_609 : (Jvm.Cond.methodLink "CoalHoles$Winter" (31 : Nat) ({ cls := "CoalHoles$Tape", name := "isAtEnd", desc := "()Z" } : Jvm.MethodName)) ∈ Uw := Uw_of 609 (by decide +kernel) (by decide +kernel)
theorem uw_610 : (Jvm.Cond.methodLink "CoalHoles$Winter" (35 : Nat) ({ cls := "CoalHoles$Winter", name := "readLine", desc := "(LCoalHoles$Tape;LCoalHoles$Terrace;)V" } : Jvm.MethodName)) ∈ Uw := Uw_of 610 (by decide +kernel) (by decide +kernel)
theorem uw_612 : (Jvm.Cond.instanceMethod ({ cls := "CoalHoles$Winter", name := "readLine", desc := "(LCoalHoles$Tape;LCoalHoles$Terrace;)V" } : Jvm.MethodName)) ∈ Uw := Uw_of 612 (by decide +kernel) (by decide +kernel)
theorem uw_613 : (Jvm.Cond.code ({ cls := "CoalHoles$Winter", name := "readLine", desc := "(LCoalHoles$Tape;LCoalHoles$Terrace;)V" } : Jvm.MethodName) prog_9_method_3_code (6 : Nat) (Option.none : Option Jvm.ClassFile.FieldType)) ∈ Uw := Uw_of 613 (by decide +kernel) (by decide +kernel)
theorem uw_615 : (Jvm.Cond.methodLink "CoalHoles$Winter" (56 : Nat) ({ cls := "CoalHoles$Tape", name := "refuse", desc := "(I)V" } : Jvm.MethodName)) ∈ Uw := Uw_of 615 (by decide +kernel) (by decide +kernel)
theorem uw_616 : (Jvm.Cond.methodLink "CoalHoles$Winter" (59 : Nat) ({ cls := "CoalHoles$Tape", name := "next", desc := "()V" } : Jvm.MethodName)) ∈ Uw := Uw_of 616 (by decide +kernel) (by decide +kernel)
theorem uw_617 : (Jvm.Cond.methodLink "CoalHoles$Winter" (62 : Nat) ({ cls := "CoalHoles$Terrace", name := "readGuestName", desc := "(LCoalHoles$Tape;)I" } : Jvm.MethodName)) ∈ Uw := Uw_of 617 (by decide +kernel) (by decide +kernel)
theorem uw_618 : (Jvm.Cond.instanceMethod ({ cls := "CoalHoles$Terrace", name := "readGuestName", desc := "(LCoalHoles$Tape;)I" } : Jvm.MethodName)) ∈ Uw := Uw_of 618 (by decide +kernel) (by decide +kernel)
theorem uw_619 : (Jvm.Cond.selects "CoalHoles$Terrace" ({ cls := "CoalHoles$Terrace", name := "readGuestName", desc := "(LCoalHoles$Tape;)I" } : Jvm.MethodName) ({ cls := "CoalHoles$Terrace", name := "readGuestName", desc := "(LCoalHoles$Tape;)I" } : Jvm.MethodName)) ∈ Uw := Uw_of 619 (by decide +kernel) (by decide +kernel)
theorem uw_620 : (Jvm.Cond.code ({ cls := "CoalHoles$Terrace", name := "readGuestName", desc := "(LCoalHoles$Tape;)I" } : Jvm.MethodName) prog_8_method_13_code (2 : Nat) (Option.some Jvm.ClassFile.FieldType.int)) ∈ Uw := Uw_of 620 (by decide +kernel) (by decide +kernel)
theorem uw_621 : (Jvm.Cond.methodLink "CoalHoles$Winter" (68 : Nat) ({ cls := "CoalHoles$Terrace", name := "readHoleName", desc := "(LCoalHoles$Tape;)I" } : Jvm.MethodName)) ∈ Uw := Uw_of 621 (by decide +kernel) (by decide +kernel)
theorem uw_622 : (Jvm.Cond.methodLink "CoalHoles$Winter" (39 : Nat) ({ cls := "CoalHoles$Tape", name := "expect", desc := "(I)V" } : Jvm.MethodName)) ∈ Uw := Uw_of 622 (by decide +kernel) (by decide +kernel)
theorem uw_623 : (Jvm.Cond.methodLink "CoalHolesLaw" (35 : Nat) ({ cls := "CoalHoles", name := "hole", desc := "(II)I" } : Jvm.MethodName)) ∈ Uw := Uw_of 623 (by decide +kernel) (by decide +kernel)
theorem uw_624 : (Jvm.Cond.instanceMethod ({ cls := "CoalHoles", name := "hole", desc := "(II)I" } : Jvm.MethodName)) ∈ Uw := Uw_of 624 (by decide +kernel) (by decide +kernel)
theorem uw_625 : (Jvm.Cond.selects "CoalHoles" ({ cls := "CoalHoles", name := "hole", desc := "(II)I" } : Jvm.MethodName) ({ cls := "CoalHoles", name := "hole", desc := "(II)I" } : Jvm.MethodName)) ∈ Uw := Uw_of 625 (by decide +kernel) (by decide +kernel)
theorem uw_626 : (Jvm.Cond.code ({ cls := "CoalHoles", name := "hole", desc := "(II)I" } : Jvm.MethodName) prog_1_method_5_code (3 : Nat) (Option.some Jvm.ClassFile.FieldType.int)) ∈ Uw := Uw_of 626 (by decide +kernel) (by decide +kernel)
theorem uw_627 : (Jvm.Cond.methodLink "CoalHoles" (103 : Nat) ({ cls := "CoalHoles$Terrace", name := "hasHole", desc := "(I)Z" } : Jvm.MethodName)) ∈ Uw := Uw_of 627 (by decide +kernel) (by decide +kernel)
theorem uw_628 : (Jvm.Cond.instanceMethod ({ cls := "CoalHoles$Terrace", name := "hasHole", desc := "(I)Z" } : Jvm.MethodName)) ∈ Uw := Uw_of 628 (by decide +kernel) (by decide +kernel)
theorem uw_629 : (Jvm.Cond.selects "CoalHoles$Terrace" ({ cls := "CoalHoles$Terrace", name := "hasHole", desc := "(I)Z" } : Jvm.MethodName) ({ cls := "CoalHoles$Terrace", name := "hasHole", desc := "(I)Z" } : Jvm.MethodName)) ∈ Uw := Uw_of 629 (by decide +kernel) (by decide +kernel)
theorem uw_630 : (Jvm.Cond.code ({ cls := "CoalHoles$Terrace", name := "hasHole", desc := "(I)Z" } : Jvm.MethodName) prog_8_method_18_code (2 : Nat) (Option.some Jvm.ClassFile.FieldType.boolean)) ∈ Uw := Uw_of 630 (by decide +kernel) (by decide +kernel)
theorem uw_631 : (Jvm.Cond.methodLink "CoalHoles" (123 : Nat) ({ cls := "CoalHoles$State", name := "takenBits", desc := "(LCoalHoles$Terrace;I)I" } : Jvm.MethodName)) ∈ Uw := Uw_of 631 (by decide +kernel) (by decide +kernel)
theorem uw_632 : (Jvm.Cond.instanceMethod ({ cls := "CoalHoles$State", name := "takenBits", desc := "(LCoalHoles$Terrace;I)I" } : Jvm.MethodName)) ∈ Uw := Uw_of 632 (by decide +kernel) (by decide +kernel)
theorem uw_633 : (Jvm.Cond.selects "CoalHoles$State" ({ cls := "CoalHoles$State", name := "takenBits", desc := "(LCoalHoles$Terrace;I)I" } : Jvm.MethodName) ({ cls := "CoalHoles$State", name := "takenBits", desc := "(LCoalHoles$Terrace;I)I" } : Jvm.MethodName)) ∈ Uw := Uw_of 633 (by decide +kernel) (by decide +kernel)
theorem uw_634 : (Jvm.Cond.code ({ cls := "CoalHoles$State", name := "takenBits", desc := "(LCoalHoles$Terrace;I)I" } : Jvm.MethodName) prog_6_method_11_code (5 : Nat) (Option.some Jvm.ClassFile.FieldType.int)) ∈ Uw := Uw_of 634 (by decide +kernel) (by decide +kernel)
theorem uw_635 : (Jvm.Cond.methodLink "CoalHoles$State" (82 : Nat) ({ cls := "CoalHoles$State", name := "takes", desc := "(LCoalHoles$Terrace;II)Z" } : Jvm.MethodName)) ∈ Uw := Uw_of 635 (by decide +kernel) (by decide +kernel)
theorem uw_636 : (Jvm.Cond.instanceMethod ({ cls := "CoalHoles$State", name := "takes", desc := "(LCoalHoles$Terrace;II)Z" } : Jvm.MethodName)) ∈ Uw := Uw_of 636 (by decide +kernel) (by decide +kernel)
theorem uw_637 : (Jvm.Cond.selects "CoalHoles$State" ({ cls := "CoalHoles$State", name := "takes", desc := "(LCoalHoles$Terrace;II)Z" } : Jvm.MethodName) ({ cls := "CoalHoles$State", name := "takes", desc := "(LCoalHoles$Terrace;II)Z" } : Jvm.MethodName)) ∈ Uw := Uw_of 637 (by decide +kernel) (by decide +kernel)
theorem uw_638 : (Jvm.Cond.code ({ cls := "CoalHoles$State", name := "takes", desc := "(LCoalHoles$Terrace;II)Z" } : Jvm.MethodName) prog_6_method_8_code (5 : Nat) (Option.some Jvm.ClassFile.FieldType.boolean)) ∈ Uw := Uw_of 638 (by decide +kernel) (by decide +kernel)
theorem uw_639 : (Jvm.Cond.methodLink "CoalHoles$State" (53 : Nat) ({ cls := "CoalHoles$State", name := "isPeaceful", desc := "(LCoalHoles$Terrace;II)Z" } : Jvm.MethodName)) ∈ Uw := Uw_of 639 (by decide +kernel) (by decide +kernel)
theorem uw_640 : (Jvm.Cond.instanceMethod ({ cls := "CoalHoles$State", name := "isPeaceful", desc := "(LCoalHoles$Terrace;II)Z" } : Jvm.MethodName)) ∈ Uw := Uw_of 640 (by decide +kernel) (by decide +kernel)
theorem uw_641 : (Jvm.Cond.selects "CoalHoles$State" ({ cls := "CoalHoles$State", name := "isPeaceful", desc := "(LCoalHoles$Terrace;II)Z" } : Jvm.MethodName) ({ cls := "CoalHoles$State", name := "isPeaceful", desc := "(LCoalHoles$Terrace;II)Z" } : Jvm.MethodName)) ∈ Uw := Uw_of 641 (by decide +kernel) (by decide +kernel)
theorem uw_642 : (Jvm.Cond.code ({ cls := "CoalHoles$State", name := "isPeaceful", desc := "(LCoalHoles$Terrace;II)Z" } : Jvm.MethodName) prog_6_method_9_code (4 : Nat) (Option.some Jvm.ClassFile.FieldType.boolean)) ∈ Uw := Uw_of 642 (by decide +kernel) (by decide +kernel)
theorem uw_643 : (Jvm.Cond.methodLink "CoalHoles$State" (57 : Nat) ({ cls := "java/lang/Integer", name := "bitCount", desc := "(I)I" } : Jvm.MethodName)) ∈ Uw := Uw_of 643 (by decide +kernel) (by decide +kernel)
theorem uw_644 : (Jvm.Cond.static ({ cls := "java/lang/Integer", name := "bitCount", desc := "(I)I" } : Jvm.MethodName)) ∈ Uw := Uw_of 644 (by decide +kernel) (by decide +kernel)
theorem uw_645 : (Jvm.Cond.code ({ cls := "java/lang/Integer", name := "bitCount", desc := "(I)I" } : Jvm.MethodName) prog_16_method_49_code (1 : Nat) (Option.some Jvm.ClassFile.FieldType.int)) ∈ Uw := Uw_of 645 (by decide +kernel) (by decide +kernel)
theorem uw_646 : (Jvm.Cond.constant "java/lang/Integer" (265 : Nat) (1431655765 : Int32)) ∈ Uw := Uw_of 646 (by decide +kernel) (by decide +kernel)
theorem uw_647 : (Jvm.Cond.constant "java/lang/Integer" (266 : Nat) (858993459 : Int32)) ∈ Uw := Uw_of 647 (by decide +kernel) (by decide +kernel)
theorem uw_648 : (Jvm.Cond.constant "java/lang/Integer" (267 : Nat) (252645135 : Int32)) ∈ Uw := Uw_of 648 (by decide +kernel) (by decide +kernel)
theorem uw_649 : (Jvm.Cond.methodLink "CoalHoles$State" (65 : Nat) ({ cls := "CoalHoles$State", name := "isLawful", desc := "(LCoalHoles$Terrace;III)Z" } : Jvm.MethodName)) ∈ Uw := Uw_of 649 (by decide +kernel) (by decide +kernel)
theorem uw_650 : (Jvm.Cond.instanceMethod ({ cls := "CoalHoles$State", name := "isLawful", desc := "(LCoalHoles$Terrace;III)Z" } : Jvm.MethodName)) ∈ Uw := Uw_of 650 (by decide +kernel) (by decide +kernel)
theorem uw_651 : (Jvm.Cond.selects "CoalHoles$State" ({ cls := "CoalHoles$State", name := "isLawful", desc := "(LCoalHoles$Terrace;III)Z" } : Jvm.MethodName) ({ cls := "CoalHoles$State", name := "isLawful", desc := "(LCoalHoles$Terrace;III)Z" } : Jvm.MethodName)) ∈ Uw := Uw_of 651 (by decide +kernel) (by decide +kernel)
theorem uw_652 : (Jvm.Cond.code ({ cls := "CoalHoles$State", name := "isLawful", desc := "(LCoalHoles$Terrace;III)Z" } : Jvm.MethodName) prog_6_method_10_code (5 : Nat) (Option.some Jvm.ClassFile.FieldType.boolean)) ∈ Uw := Uw_of 652 (by decide +kernel) (by decide +kernel)
theorem uw_653 : (Jvm.Cond.methodLink "CoalHoles$State" (76 : Nat) ({ cls := "CoalHoles$Law", name := "allows", desc := "(IIII)Z" } : Jvm.MethodName)) ∈ Uw := Uw_of 653 (by decide +kernel) (by decide +kernel)
theorem uw_654 : (Jvm.Cond.instanceMethod ({ cls := "CoalHoles$Law", name := "allows", desc := "(IIII)Z" } : Jvm.MethodName)) ∈ Uw := Uw_of 654 (by decide +kernel) (by decide +kernel)
theorem uw_655 : (Jvm.Cond.selects "CoalHoles$Law" ({ cls := "CoalHoles$Law", name := "allows", desc := "(IIII)Z" } : Jvm.MethodName) ({ cls := "CoalHoles$Law", name := "allows", desc := "(IIII)Z" } : Jvm.MethodName)) ∈ Uw := Uw_of 655 (by decide +kernel) (by decide +kernel)
theorem uw_656 : (Jvm.Cond.code ({ cls := "CoalHoles$Law", name := "allows", desc := "(IIII)Z" } : Jvm.MethodName) prog_3_method_12_code (7 : Nat) (Option.some Jvm.ClassFile.FieldType.boolean)) ∈ Uw := Uw_of 656 (by decide +kernel) (by decide +kernel)
theorem uw_657 : (Jvm.Cond.methodLink "CoalHoles$Law" (81 : Nat) ({ cls := "CoalHoles$Law", name := "joined", desc := "(III)I" } : Jvm.MethodName)) ∈ Uw := Uw_of 657 (by decide +kernel) (by decide +kernel)
theorem uw_658 : (Jvm.Cond.static ({ cls := "CoalHoles$Law", name := "joined", desc := "(III)I" } : Jvm.MethodName)) ∈ Uw := Uw_of 658 (by decide +kernel) (by decide +kernel)
theorem uw_659 : (Jvm.Cond.code ({ cls := "CoalHoles$Law", name := "joined", desc := "(III)I" } : Jvm.MethodName) prog_3_method_13_code (3 : Nat) (Option.some Jvm.ClassFile.FieldType.int)) ∈ Uw := Uw_of 659 (by decide +kernel) (by decide +kernel)
theorem uw_660 : (Jvm.Cond.methodLink "CoalHolesLaw" (40 : Nat) ({ cls := "CoalHoles", name := "guest", desc := "(II)I" } : Jvm.MethodName)) ∈ Uw := Uw_of 660 (by decide +kernel) (by decide +kernel)
theorem uw_661 : (Jvm.Cond.instanceMethod ({ cls := "CoalHoles", name := "guest", desc := "(II)I" } : Jvm.MethodName)) ∈ Uw := Uw_of 661 (by decide +kernel) (by decide +kernel)
theorem uw_662 : (Jvm.Cond.selects "CoalHoles" ({ cls := "CoalHoles", name := "guest", desc := "(II)I" } : Jvm.MethodName) ({ cls := "CoalHoles", name := "guest", desc := "(II)I" } : Jvm.MethodName)) ∈ Uw := Uw_of 662 (by decide +kernel) (by decide +kernel)
theorem uw_663 : (Jvm.Cond.code ({ cls := "CoalHoles", name := "guest", desc := "(II)I" } : Jvm.MethodName) prog_1_method_6_code (3 : Nat) (Option.some Jvm.ClassFile.FieldType.int)) ∈ Uw := Uw_of 663 (by decide +kernel) (by decide +kernel)
theorem uw_664 : (Jvm.Cond.methodLink "CoalHoles" (127 : Nat) ({ cls := "CoalHoles$Terrace", name := "hasGuest", desc := "(I)Z" } : Jvm.MethodName)) ∈ Uw := Uw_of 664 (by decide +kernel) (by decide +kernel)
theorem uw_665 : (Jvm.Cond.instanceMethod ({ cls := "CoalHoles$Terrace", name := "hasGuest", desc := "(I)Z" } : Jvm.MethodName)) ∈ Uw := Uw_of 665 (by decide +kernel) (by decide +kernel)
theorem uw_666 : (Jvm.Cond.selects "CoalHoles$Terrace" ({ cls := "CoalHoles$Terrace", name := "hasGuest", desc := "(I)Z" } : Jvm.MethodName) ({ cls := "CoalHoles$Terrace", name := "hasGuest", desc := "(I)Z" } : Jvm.MethodName)) ∈ Uw := Uw_of 666 (by decide +kernel) (by decide +kernel)
theorem uw_667 : (Jvm.Cond.code ({ cls := "CoalHoles$Terrace", name := "hasGuest", desc := "(I)Z" } : Jvm.MethodName) prog_8_method_19_code (2 : Nat) (Option.some Jvm.ClassFile.FieldType.boolean)) ∈ Uw := Uw_of 667 (by decide +kernel) (by decide +kernel)
theorem uw_668 : (Jvm.Cond.methodLink "CoalHoles" (136 : Nat) ({ cls := "CoalHoles$State", name := "placeOf", desc := "(I)I" } : Jvm.MethodName)) ∈ Uw := Uw_of 668 (by decide +kernel) (by decide +kernel)
theorem uw_669 : (Jvm.Cond.instanceMethod ({ cls := "CoalHoles$State", name := "placeOf", desc := "(I)I" } : Jvm.MethodName)) ∈ Uw := Uw_of 669 (by decide +kernel) (by decide +kernel)
theorem uw_670 : (Jvm.Cond.selects "CoalHoles$State" ({ cls := "CoalHoles$State", name := "placeOf", desc := "(I)I" } : Jvm.MethodName) ({ cls := "CoalHoles$State", name := "placeOf", desc := "(I)I" } : Jvm.MethodName)) ∈ Uw := Uw_of 670 (by decide +kernel) (by decide +kernel)
theorem uw_671 : (Jvm.Cond.code ({ cls := "CoalHoles$State", name := "placeOf", desc := "(I)I" } : Jvm.MethodName) prog_6_method_4_code (3 : Nat) (Option.some Jvm.ClassFile.FieldType.int)) ∈ Uw := Uw_of 671 (by decide +kernel) (by decide +kernel)
theorem uw_672 : (Jvm.Cond.methodLink "CoalHoles" (143 : Nat) ({ cls := "CoalHoles$State", name := "foesBits", desc := "(LCoalHoles$Terrace;I)I" } : Jvm.MethodName)) ∈ Uw := Uw_of 672 (by decide +kernel) (by decide +kernel)
theorem uw_673 : (Jvm.Cond.instanceMethod ({ cls := "CoalHoles$State", name := "foesBits", desc := "(LCoalHoles$Terrace;I)I" } : Jvm.MethodName)) ∈ Uw := Uw_of 673 (by decide +kernel) (by decide +kernel)
theorem uw_674 : (Jvm.Cond.selects "CoalHoles$State" ({ cls := "CoalHoles$State", name := "foesBits", desc := "(LCoalHoles$Terrace;I)I" } : Jvm.MethodName) ({ cls := "CoalHoles$State", name := "foesBits", desc := "(LCoalHoles$Terrace;I)I" } : Jvm.MethodName)) ∈ Uw := Uw_of 674 (by decide +kernel) (by decide +kernel)
theorem uw_675 : (Jvm.Cond.code ({ cls := "CoalHoles$State", name := "foesBits", desc := "(LCoalHoles$Terrace;I)I" } : Jvm.MethodName) prog_6_method_6_code (4 : Nat) (Option.some Jvm.ClassFile.FieldType.int)) ∈ Uw := Uw_of 675 (by decide +kernel) (by decide +kernel)
theorem uw_676 : (Jvm.Cond.methodLink "CoalHoles$State" (39 : Nat) ({ cls := "CoalHoles$State", name := "placeOf", desc := "(I)I" } : Jvm.MethodName)) ∈ Uw := Uw_of 676 (by decide +kernel) (by decide +kernel)
theorem uw_677 : (Jvm.Cond.methodLink "CoalHoles$State" (46 : Nat) ({ cls := "CoalHoles$State", name := "streetBits", desc := "(LCoalHoles$Terrace;)I" } : Jvm.MethodName)) ∈ Uw := Uw_of 677 (by decide +kernel) (by decide +kernel)
theorem uw_678 : (Jvm.Cond.instanceMethod ({ cls := "CoalHoles$State", name := "streetBits", desc := "(LCoalHoles$Terrace;)I" } : Jvm.MethodName)) ∈ Uw := Uw_of 678 (by decide +kernel) (by decide +kernel)
theorem uw_679 : (Jvm.Cond.selects "CoalHoles$State" ({ cls := "CoalHoles$State", name := "streetBits", desc := "(LCoalHoles$Terrace;)I" } : Jvm.MethodName) ({ cls := "CoalHoles$State", name := "streetBits", desc := "(LCoalHoles$Terrace;)I" } : Jvm.MethodName)) ∈ Uw := Uw_of 679 (by decide +kernel) (by decide +kernel)
theorem uw_680 : (Jvm.Cond.code ({ cls := "CoalHoles$State", name := "streetBits", desc := "(LCoalHoles$Terrace;)I" } : Jvm.MethodName) prog_6_method_5_code (4 : Nat) (Option.some Jvm.ClassFile.FieldType.int)) ∈ Uw := Uw_of 680 (by decide +kernel) (by decide +kernel)
theorem uw_681 : (Jvm.Cond.methodLink "CoalHolesLaw" (44 : Nat) ({ cls := "CoalHoles", name := "down", desc := "(II)Z" } : Jvm.MethodName)) ∈ Uw := Uw_of 681 (by decide +kernel) (by decide +kernel)
theorem uw_682 : (Jvm.Cond.instanceMethod ({ cls := "CoalHoles", name := "down", desc := "(II)Z" } : Jvm.MethodName)) ∈ Uw := Uw_of 682 (by decide +kernel) (by decide +kernel)
theorem uw_683 : (Jvm.Cond.selects "CoalHoles" ({ cls := "CoalHoles", name := "down", desc := "(II)Z" } : Jvm.MethodName) ({ cls := "CoalHoles", name := "down", desc := "(II)Z" } : Jvm.MethodName)) ∈ Uw := Uw_of 683 (by decide +kernel) (by decide +kernel)
theorem uw_684 : (Jvm.Cond.code ({ cls := "CoalHoles", name := "down", desc := "(II)Z" } : Jvm.MethodName) prog_1_method_7_code (3 : Nat) (Option.some Jvm.ClassFile.FieldType.boolean)) ∈ Uw := Uw_of 684 (by decide +kernel) (by decide +kernel)
theorem uw_685 : (Jvm.Cond.methodLink "CoalHoles" (146 : Nat) ({ cls := "CoalHoles$State", name := "canGoDown", desc := "(LCoalHoles$Terrace;II)Z" } : Jvm.MethodName)) ∈ Uw := Uw_of 685 (by decide +kernel) (by decide +kernel)
theorem uw_686 : (Jvm.Cond.instanceMethod ({ cls := "CoalHoles$State", name := "canGoDown", desc := "(LCoalHoles$Terrace;II)Z" } : Jvm.MethodName)) ∈ Uw := Uw_of 686 (by decide +kernel) (by decide +kernel)
theorem uw_687 : (Jvm.Cond.selects "CoalHoles$State" ({ cls := "CoalHoles$State", name := "canGoDown", desc := "(LCoalHoles$Terrace;II)Z" } : Jvm.MethodName) ({ cls := "CoalHoles$State", name := "canGoDown", desc := "(LCoalHoles$Terrace;II)Z" } : Jvm.MethodName)) ∈ Uw := Uw_of 687 (by decide +kernel) (by decide +kernel)
theorem uw_688 : (Jvm.Cond.code ({ cls := "CoalHoles$State", name := "canGoDown", desc := "(LCoalHoles$Terrace;II)Z" } : Jvm.MethodName) prog_6_method_12_code (4 : Nat) (Option.some Jvm.ClassFile.FieldType.boolean)) ∈ Uw := Uw_of 688 (by decide +kernel) (by decide +kernel)
theorem uw_689 : (Jvm.Cond.methodLink "CoalHoles$State" (85 : Nat) ({ cls := "CoalHoles$Terrace", name := "hasGuest", desc := "(I)Z" } : Jvm.MethodName)) ∈ Uw := Uw_of 689 (by decide +kernel) (by decide +kernel)
theorem uw_690 : (Jvm.Cond.methodLink "CoalHoles$State" (89 : Nat) ({ cls := "CoalHoles$Terrace", name := "hasHole", desc := "(I)Z" } : Jvm.MethodName)) ∈ Uw := Uw_of 690 (by decide +kernel) (by decide +kernel)
theorem uw_691 : (Jvm.Cond.methodLink "CoalHoles" (150 : Nat) ({ cls := "CoalHoles", name := "remember", desc := "()V" } : Jvm.MethodName)) ∈ Uw := Uw_of 691 (by decide +kernel) (by decide +kernel)
theorem uw_693 : (Jvm.Cond.instanceMethod ({ cls := "CoalHoles", name := "remember", desc := "()V" } : Jvm.MethodName)) ∈ Uw := Uw_of 693 (by decide +kernel) (by decide +kernel)
theorem uw_694 : (Jvm.Cond.code ({ cls := "CoalHoles", name := "remember", desc := "()V" } : Jvm.MethodName) prog_1_method_34_code (1 : Nat) (Option.none : Option Jvm.ClassFile.FieldType)) ∈ Uw := Uw_of 694 (by decide +kernel) (by decide +kernel)
theorem uw_695 : (Jvm.Cond.methodLink "CoalHoles" (175 : Nat) ({ cls := "CoalHoles$State", name := "copyFrom", desc := "(LCoalHoles$State;)V" } : Jvm.MethodName)) ∈ Uw := Uw_of 695 (by decide +kernel) (by decide +kernel)
theorem uw_696 : (Jvm.Cond.instanceMethod ({ cls := "CoalHoles$State", name := "copyFrom", desc := "(LCoalHoles$State;)V" } : Jvm.MethodName)) ∈ Uw := Uw_of 696 (by decide +kernel) (by decide +kernel)
theorem uw_697 : (Jvm.Cond.selects "CoalHoles$State" ({ cls := "CoalHoles$State", name := "copyFrom", desc := "(LCoalHoles$State;)V" } : Jvm.MethodName) ({ cls := "CoalHoles$State", name := "copyFrom", desc := "(LCoalHoles$State;)V" } : Jvm.MethodName)) ∈ Uw := Uw_of 697 (by decide +kernel) (by decide +kernel)
theorem uw_698 : (Jvm.Cond.code ({ cls := "CoalHoles$State", name := "copyFrom", desc := "(LCoalHoles$State;)V" } : Jvm.MethodName) prog_6_method_3_code (3 : Nat) (Option.none : Option Jvm.ClassFile.FieldType)) ∈ Uw := Uw_of 698 (by decide +kernel) (by decide +kernel)
theorem uw_699 : (Jvm.Cond.methodLink "CoalHoles" (300 : Nat) ({ cls := "java/lang/Math", name := "min", desc := "(II)I" } : Jvm.MethodName)) ∈ Uw := Uw_of 699 (by decide +kernel) (by decide +kernel)
theorem uw_700 : (Jvm.Cond.static ({ cls := "java/lang/Math", name := "min", desc := "(II)I" } : Jvm.MethodName)) ∈ Uw := Uw_of 700 (by decide +kernel) (by decide +kernel)
theorem uw_701 : (Jvm.Cond.code ({ cls := "java/lang/Math", name := "min", desc := "(II)I" } : Jvm.MethodName) prog_17_method_69_code (2 : Nat) (Option.some Jvm.ClassFile.FieldType.int)) ∈ Uw := Uw_of 701 (by decide +kernel) (by decide +kernel)
theorem uw_702 : (Jvm.Cond.methodLink "CoalHoles" (153 : Nat) ({ cls := "CoalHoles$State", name := "move", desc := "(II)V" } : Jvm.MethodName)) ∈ Uw := Uw_of 702 (by decide +kernel) (by decide +kernel)
theorem uw_703 : (Jvm.Cond.instanceMethod ({ cls := "CoalHoles$State", name := "move", desc := "(II)V" } : Jvm.MethodName)) ∈ Uw := Uw_of 703 (by decide +kernel) (by decide +kernel)
theorem uw_704 : (Jvm.Cond.selects "CoalHoles$State" ({ cls := "CoalHoles$State", name := "move", desc := "(II)V" } : Jvm.MethodName) ({ cls := "CoalHoles$State", name := "move", desc := "(II)V" } : Jvm.MethodName)) ∈ Uw := Uw_of 704 (by decide +kernel) (by decide +kernel)
theorem uw_705 : (Jvm.Cond.code ({ cls := "CoalHoles$State", name := "move", desc := "(II)V" } : Jvm.MethodName) prog_6_method_15_code (4 : Nat) (Option.none : Option Jvm.ClassFile.FieldType)) ∈ Uw := Uw_of 705 (by decide +kernel) (by decide +kernel)
theorem uw_706 : (Jvm.Cond.methodLink "CoalHolesLaw" (49 : Nat) ({ cls := "CoalHoles", name := "up", desc := "(I)Z" } : Jvm.MethodName)) ∈ Uw := Uw_of 706 (by decide +kernel) (by decide +kernel)
theorem uw_707 : (Jvm.Cond.instanceMethod ({ cls := "CoalHoles", name := "up", desc := "(I)Z" } : Jvm.MethodName)) ∈ Uw := Uw_of 707 (by decide +kernel) (by decide +kernel)
theorem uw_708 : (Jvm.Cond.selects "CoalHoles" ({ cls := "CoalHoles", name := "up", desc := "(I)Z" } : Jvm.MethodName) ({ cls := "CoalHoles", name := "up", desc := "(I)Z" } : Jvm.MethodName)) ∈ Uw := Uw_of 708 (by decide +kernel) (by decide +kernel)
theorem uw_709 : (Jvm.Cond.code ({ cls := "CoalHoles", name := "up", desc := "(I)Z" } : Jvm.MethodName) prog_1_method_8_code (2 : Nat) (Option.some Jvm.ClassFile.FieldType.boolean)) ∈ Uw := Uw_of 709 (by decide +kernel) (by decide +kernel)
theorem uw_710 : (Jvm.Cond.methodLink "CoalHoles" (157 : Nat) ({ cls := "CoalHoles$State", name := "canClimb", desc := "(LCoalHoles$Terrace;I)Z" } : Jvm.MethodName)) ∈ Uw := Uw_of 710 (by decide +kernel) (by decide +kernel)
theorem uw_711 : (Jvm.Cond.instanceMethod ({ cls := "CoalHoles$State", name := "canClimb", desc := "(LCoalHoles$Terrace;I)Z" } : Jvm.MethodName)) ∈ Uw := Uw_of 711 (by decide +kernel) (by decide +kernel)
theorem uw_712 : (Jvm.Cond.selects "CoalHoles$State" ({ cls := "CoalHoles$State", name := "canClimb", desc := "(LCoalHoles$Terrace;I)Z" } : Jvm.MethodName) ({ cls := "CoalHoles$State", name := "canClimb", desc := "(LCoalHoles$Terrace;I)Z" } : Jvm.MethodName)) ∈ Uw := Uw_of 712 (by decide +kernel) (by decide +kernel)
theorem uw_713 : (Jvm.Cond.code ({ cls := "CoalHoles$State", name := "canClimb", desc := "(LCoalHoles$Terrace;I)Z" } : Jvm.MethodName) prog_6_method_13_code (3 : Nat) (Option.some Jvm.ClassFile.FieldType.boolean)) ∈ Uw := Uw_of 713 (by decide +kernel) (by decide +kernel)
theorem uw_714 : (Jvm.Cond.methodLink "CoalHolesLaw" (54 : Nat) ({ cls := "CoalHoles", name := "through", desc := "(II)Z" } : Jvm.MethodName)) ∈ Uw := Uw_of 714 (by decide +kernel) (by decide +kernel)
theorem uw_715 : (Jvm.Cond.instanceMethod ({ cls := "CoalHoles", name := "through", desc := "(II)Z" } : Jvm.MethodName)) ∈ Uw := Uw_of 715 (by decide +kernel) (by decide +kernel)
theorem uw_716 : (Jvm.Cond.selects "CoalHoles" ({ cls := "CoalHoles", name := "through", desc := "(II)Z" } : Jvm.MethodName) ({ cls := "CoalHoles", name := "through", desc := "(II)Z" } : Jvm.MethodName)) ∈ Uw := Uw_of 716 (by decide +kernel) (by decide +kernel)
theorem uw_717 : (Jvm.Cond.code ({ cls := "CoalHoles", name := "through", desc := "(II)Z" } : Jvm.MethodName) prog_1_method_9_code (3 : Nat) (Option.some Jvm.ClassFile.FieldType.boolean)) ∈ Uw := Uw_of 717 (by decide +kernel) (by decide +kernel)
theorem uw_718 : (Jvm.Cond.methodLink "CoalHoles" (161 : Nat) ({ cls := "CoalHoles$State", name := "canGoThrough", desc := "(LCoalHoles$Terrace;II)Z" } : Jvm.MethodName)) ∈ Uw := Uw_of 718 (by decide +kernel) (by decide +kernel)
theorem uw_719 : (Jvm.Cond.instanceMethod ({ cls := "CoalHoles$State", name := "canGoThrough", desc := "(LCoalHoles$Terrace;II)Z" } : Jvm.MethodName)) ∈ Uw := Uw_of 719 (by decide +kernel) (by decide +kernel)
theorem uw_720 : (Jvm.Cond.selects "CoalHoles$State" ({ cls := "CoalHoles$State", name := "canGoThrough", desc := "(LCoalHoles$Terrace;II)Z" } : Jvm.MethodName) ({ cls := "CoalHoles$State", name := "canGoThrough", desc := "(LCoalHoles$Terrace;II)Z" } : Jvm.MethodName)) ∈ Uw := Uw_of 720 (by decide +kernel) (by decide +kernel)
theorem uw_721 : (Jvm.Cond.code ({ cls := "CoalHoles$State", name := "canGoThrough", desc := "(LCoalHoles$Terrace;II)Z" } : Jvm.MethodName) prog_6_method_14_code (4 : Nat) (Option.some Jvm.ClassFile.FieldType.boolean)) ∈ Uw := Uw_of 721 (by decide +kernel) (by decide +kernel)
theorem uw_722 : (Jvm.Cond.methodLink "CoalHoles$State" (92 : Nat) ({ cls := "CoalHoles$State", name := "canClimb", desc := "(LCoalHoles$Terrace;I)Z" } : Jvm.MethodName)) ∈ Uw := Uw_of 722 (by decide +kernel) (by decide +kernel)
theorem uw_723 : (Jvm.Cond.methodLink "CoalHolesLaw" (58 : Nat) ({ cls := "CoalHoles", name := "bring", desc := "(I)I" } : Jvm.MethodName)) ∈ Uw := Uw_of 723 (by decide +kernel) (by decide +kernel)
theorem uw_724 : (Jvm.Cond.instanceMethod ({ cls := "CoalHoles", name := "bring", desc := "(I)I" } : Jvm.MethodName)) ∈ Uw := Uw_of 724 (by decide +kernel) (by decide +kernel)
theorem uw_725 : (Jvm.Cond.selects "CoalHoles" ({ cls := "CoalHoles", name := "bring", desc := "(I)I" } : Jvm.MethodName) ({ cls := "CoalHoles", name := "bring", desc := "(I)I" } : Jvm.MethodName)) ∈ Uw := Uw_of 725 (by decide +kernel) (by decide +kernel)
theorem uw_726 : (Jvm.Cond.code ({ cls := "CoalHoles", name := "bring", desc := "(I)I" } : Jvm.MethodName) prog_1_method_10_code (2 : Nat) (Option.some Jvm.ClassFile.FieldType.int)) ∈ Uw := Uw_of 726 (by decide +kernel) (by decide +kernel)
theorem uw_727 : (Jvm.Cond.methodLink "CoalHoles" (164 : Nat) ({ cls := "CoalHoles$State", name := "addSack", desc := "(LCoalHoles$Terrace;I)V" } : Jvm.MethodName)) ∈ Uw := Uw_of 727 (by decide +kernel) (by decide +kernel)
theorem uw_728 : (Jvm.Cond.instanceMethod ({ cls := "CoalHoles$State", name := "addSack", desc := "(LCoalHoles$Terrace;I)V" } : Jvm.MethodName)) ∈ Uw := Uw_of 728 (by decide +kernel) (by decide +kernel)
theorem uw_729 : (Jvm.Cond.selects "CoalHoles$State" ({ cls := "CoalHoles$State", name := "addSack", desc := "(LCoalHoles$Terrace;I)V" } : Jvm.MethodName) ({ cls := "CoalHoles$State", name := "addSack", desc := "(LCoalHoles$Terrace;I)V" } : Jvm.MethodName)) ∈ Uw := Uw_of 729 (by decide +kernel) (by decide +kernel)
theorem uw_730 : (Jvm.Cond.code ({ cls := "CoalHoles$State", name := "addSack", desc := "(LCoalHoles$Terrace;I)V" } : Jvm.MethodName) prog_6_method_16_code (3 : Nat) (Option.none : Option Jvm.ClassFile.FieldType)) ∈ Uw := Uw_of 730 (by decide +kernel) (by decide +kernel)
theorem uw_731 : (Jvm.Cond.methodLink "CoalHoles$State" (102 : Nat) ({ cls := "java/lang/Math", name := "min", desc := "(II)I" } : Jvm.MethodName)) ∈ Uw := Uw_of 731 (by decide +kernel) (by decide +kernel)
theorem uw_732 : (Jvm.Cond.methodLink "CoalHolesLaw" (63 : Nat) ({ cls := "CoalHoles", name := "day", desc := "()I" } : Jvm.MethodName)) ∈ Uw := Uw_of 732 (by decide +kernel) (by decide +kernel)
theorem uw_733 : (Jvm.Cond.instanceMethod ({ cls := "CoalHoles", name := "day", desc := "()I" } : Jvm.MethodName)) ∈ Uw := Uw_of 733 (by decide +kernel) (by decide +kernel)
theorem uw_734 : (Jvm.Cond.selects "CoalHoles" ({ cls := "CoalHoles", name := "day", desc := "()I" } : Jvm.MethodName) ({ cls := "CoalHoles", name := "day", desc := "()I" } : Jvm.MethodName)) ∈ Uw := Uw_of 734 (by decide +kernel) (by decide +kernel)
theorem uw_735 : (Jvm.Cond.code ({ cls := "CoalHoles", name := "day", desc := "()I" } : Jvm.MethodName) prog_1_method_11_code (1 : Nat) (Option.some Jvm.ClassFile.FieldType.int)) ∈ Uw := Uw_of 735 (by decide +kernel) (by decide +kernel)
theorem uw_736 : (Jvm.Cond.methodLink "CoalHoles" (168 : Nat) ({ cls := "CoalHoles$State", name := "passDay", desc := "(LCoalHoles$Terrace;)I" } : Jvm.MethodName)) ∈ Uw := Uw_of 736 (by decide +kernel) (by decide +kernel)
theorem uw_737 : (Jvm.Cond.instanceMethod ({ cls := "CoalHoles$State", name := "passDay", desc := "(LCoalHoles$Terrace;)I" } : Jvm.MethodName)) ∈ Uw := Uw_of 737 (by decide +kernel) (by decide +kernel)
theorem uw_738 : (Jvm.Cond.selects "CoalHoles$State" ({ cls := "CoalHoles$State", name := "passDay", desc := "(LCoalHoles$Terrace;)I" } : Jvm.MethodName) ({ cls := "CoalHoles$State", name := "passDay", desc := "(LCoalHoles$Terrace;)I" } : Jvm.MethodName)) ∈ Uw := Uw_of 738 (by decide +kernel) (by decide +kernel)
theorem uw_739 : (Jvm.Cond.code ({ cls := "CoalHoles$State", name := "passDay", desc := "(LCoalHoles$Terrace;)I" } : Jvm.MethodName) prog_6_method_17_code (4 : Nat) (Option.some Jvm.ClassFile.FieldType.int)) ∈ Uw := Uw_of 739 (by decide +kernel) (by decide +kernel)
theorem uw_740 : (Jvm.Cond.methodLink "CoalHoles$State" (108 : Nat) ({ cls := "CoalHoles$Terrace", name := "coldOf", desc := "(I)I" } : Jvm.MethodName)) ∈ Uw := Uw_of 740 (by decide +kernel) (by decide +kernel)
theorem uw_741 : (Jvm.Cond.instanceMethod ({ cls := "CoalHoles$Terrace", name := "coldOf", desc := "(I)I" } : Jvm.MethodName)) ∈ Uw := Uw_of 741 (by decide +kernel) (by decide +kernel)
theorem uw_742 : (Jvm.Cond.selects "CoalHoles$Terrace" ({ cls := "CoalHoles$Terrace", name := "coldOf", desc := "(I)I" } : Jvm.MethodName) ({ cls := "CoalHoles$Terrace", name := "coldOf", desc := "(I)I" } : Jvm.MethodName)) ∈ Uw := Uw_of 742 (by decide +kernel) (by decide +kernel)
theorem uw_743 : (Jvm.Cond.code ({ cls := "CoalHoles$Terrace", name := "coldOf", desc := "(I)I" } : Jvm.MethodName) prog_8_method_22_code (2 : Nat) (Option.some Jvm.ClassFile.FieldType.int)) ∈ Uw := Uw_of 743 (by decide +kernel) (by decide +kernel)
theorem uw_744 : (Jvm.Cond.methodLink "CoalHoles$State" (114 : Nat) ({ cls := "java/lang/Math", name := "max", desc := "(II)I" } : Jvm.MethodName)) ∈ Uw := Uw_of 744 (by decide +kernel) (by decide +kernel)
theorem uw_745 : (Jvm.Cond.static ({ cls := "java/lang/Math", name := "max", desc := "(II)I" } : Jvm.MethodName)) ∈ Uw := Uw_of 745 (by decide +kernel) (by decide +kernel)
theorem uw_746 : (Jvm.Cond.code ({ cls := "java/lang/Math", name := "max", desc := "(II)I" } : Jvm.MethodName) prog_17_method_65_code (2 : Nat) (Option.some Jvm.ClassFile.FieldType.int)) ∈ Uw := Uw_of 746 (by decide +kernel) (by decide +kernel)
theorem uw_747 : (Jvm.Cond.methodLink "CoalHolesLaw" (67 : Nat) ({ cls := "CoalHoles", name := "undo", desc := "()Z" } : Jvm.MethodName)) ∈ Uw := Uw_of 747 (by decide +kernel) (by decide +kernel)
theorem uw_748 : (Jvm.Cond.instanceMethod ({ cls := "CoalHoles", name := "undo", desc := "()Z" } : Jvm.MethodName)) ∈ Uw := Uw_of 748 (by decide +kernel) (by decide +kernel)
theorem uw_749 : (Jvm.Cond.selects "CoalHoles" ({ cls := "CoalHoles", name := "undo", desc := "()Z" } : Jvm.MethodName) ({ cls := "CoalHoles", name := "undo", desc := "()Z" } : Jvm.MethodName)) ∈ Uw := Uw_of 749 (by decide +kernel) (by decide +kernel)
theorem uw_750 : (Jvm.Cond.code ({ cls := "CoalHoles", name := "undo", desc := "()Z" } : Jvm.MethodName) prog_1_method_12_code (1 : Nat) (Option.some Jvm.ClassFile.FieldType.boolean)) ∈ Uw := Uw_of 750 (by decide +kernel) (by decide +kernel)
theorem uw_751 : (Jvm.Cond.methodLink "CoalHolesLaw" (72 : Nat) ({ cls := "CoalHoles", name := "judged", desc := "(I)I" } : Jvm.MethodName)) ∈ Uw := Uw_of 751 (by decide +kernel) (by decide +kernel)
theorem uw_752 : (Jvm.Cond.instanceMethod ({ cls := "CoalHoles", name := "judged", desc := "(I)I" } : Jvm.MethodName)) ∈ Uw := Uw_of 752 (by decide +kernel) (by decide +kernel)
theorem uw_753 : (Jvm.Cond.selects "CoalHoles" ({ cls := "CoalHoles", name := "judged", desc := "(I)I" } : Jvm.MethodName) ({ cls := "CoalHoles", name := "judged", desc := "(I)I" } : Jvm.MethodName)) ∈ Uw := Uw_of 753 (by decide +kernel) (by decide +kernel)
theorem uw_754 : (Jvm.Cond.code ({ cls := "CoalHoles", name := "judged", desc := "(I)I" } : Jvm.MethodName) prog_1_method_13_code (2 : Nat) (Option.some Jvm.ClassFile.FieldType.int)) ∈ Uw := Uw_of 754 (by decide +kernel) (by decide +kernel)
theorem uw_755 : (Jvm.Cond.methodLink "CoalHoles" (179 : Nat) ({ cls := "CoalHoles$Winter", name := "judge", desc := "(LCoalHoles$Terrace;LCoalHoles$State;I)I" } : Jvm.MethodName)) ∈ Uw := Uw_of 755 (by decide +kernel) (by decide +kernel)
theorem uw_756 : (Jvm.Cond.instanceMethod ({ cls := "CoalHoles$Winter", name := "judge", desc := "(LCoalHoles$Terrace;LCoalHoles$State;I)I" } : Jvm.MethodName)) ∈ Uw := Uw_of 756 (by decide +kernel) (by decide +kernel)
theorem uw_757 : (Jvm.Cond.selects "CoalHoles$Winter" ({ cls := "CoalHoles$Winter", name := "judge", desc := "(LCoalHoles$Terrace;LCoalHoles$State;I)I" } : Jvm.MethodName) ({ cls := "CoalHoles$Winter", name := "judge", desc := "(LCoalHoles$Terrace;LCoalHoles$State;I)I" } : Jvm.MethodName)) ∈ Uw := Uw_of 757 (by decide +kernel) (by decide +kernel)
theorem uw_758 : (Jvm.Cond.code ({ cls := "CoalHoles$Winter", name := "judge", desc := "(LCoalHoles$Terrace;LCoalHoles$State;I)I" } : Jvm.MethodName) prog_9_method_5_code (8 : Nat) (Option.some Jvm.ClassFile.FieldType.int)) ∈ Uw := Uw_of 758 (by decide +kernel) (by decide +kernel)
theorem uw_759 : (Jvm.Cond.methodLink "CoalHoles$Winter" (71 : Nat) ({ cls := "CoalHoles$State", name := "beginAt", desc := "(LCoalHoles$Terrace;)V" } : Jvm.MethodName)) ∈ Uw := Uw_of 759 (by decide +kernel) (by decide +kernel)
theorem uw_760 : (Jvm.Cond.methodLink "CoalHoles$Winter" (80 : Nat) ({ cls := "CoalHoles$Winter", name := "follow", desc := "(LCoalHoles$Terrace;LCoalHoles$State;I)Z" } : Jvm.MethodName)) ∈ Uw := Uw_of 760 (by decide +kernel) (by decide +kernel)
theorem uw_762 : (Jvm.Cond.instanceMethod ({ cls := "CoalHoles$Winter", name := "follow", desc := "(LCoalHoles$Terrace;LCoalHoles$State;I)Z" } : Jvm.MethodName)) ∈ Uw := Uw_of 762 (by decide +kernel) (by decide +kernel)
theorem uw_763 : (Jvm.Cond.code ({ cls := "CoalHoles$Winter", name := "follow", desc := "(LCoalHoles$Terrace;LCoalHoles$State;I)Z" } : Jvm.MethodName) prog_9_method_6_code (7 : Nat) (Option.some Jvm.ClassFile.FieldType.boolean)) ∈ Uw := Uw_of 763 (by decide +kernel) (by decide +kernel)
theorem uw_764 : (Jvm.Cond.methodLink "CoalHoles$Winter" (87 : Nat) ({ cls := "CoalHoles$State", name := "canGoDown", desc := "(LCoalHoles$Terrace;II)Z" } : Jvm.MethodName)) ∈ Uw := Uw_of 764 (by decide +kernel) (by decide +kernel)
theorem uw_765 : (Jvm.Cond.methodLink "CoalHoles$Winter" (91 : Nat) ({ cls := "CoalHoles$State", name := "canClimb", desc := "(LCoalHoles$Terrace;I)Z" } : Jvm.MethodName)) ∈ Uw := Uw_of 765 (by decide +kernel) (by decide +kernel)
theorem uw_766 : (Jvm.Cond.methodLink "CoalHoles$Winter" (95 : Nat) ({ cls := "CoalHoles$State", name := "canGoThrough", desc := "(LCoalHoles$Terrace;II)Z" } : Jvm.MethodName)) ∈ Uw := Uw_of 766 (by decide +kernel) (by decide +kernel)
theorem uw_767 : (Jvm.Cond.methodLink "CoalHoles$Winter" (98 : Nat) ({ cls := "CoalHoles$Terrace", name := "hasHole", desc := "(I)Z" } : Jvm.MethodName)) ∈ Uw := Uw_of 767 (by decide +kernel) (by decide +kernel)
theorem uw_768 : (Jvm.Cond.methodLink "CoalHoles$Winter" (102 : Nat) ({ cls := "CoalHoles$State", name := "addSack", desc := "(LCoalHoles$Terrace;I)V" } : Jvm.MethodName)) ∈ Uw := Uw_of 768 (by decide +kernel) (by decide +kernel)
theorem uw_769 : (Jvm.Cond.methodLink "CoalHoles$Winter" (106 : Nat) ({ cls := "CoalHoles$State", name := "passDay", desc := "(LCoalHoles$Terrace;)I" } : Jvm.MethodName)) ∈ Uw := Uw_of 769 (by decide +kernel) (by decide +kernel)
theorem uw_770 : (Jvm.Cond.methodLink "CoalHoles$Winter" (110 : Nat) ({ cls := "CoalHoles$State", name := "move", desc := "(II)V" } : Jvm.MethodName)) ∈ Uw := Uw_of 770 (by decide +kernel) (by decide +kernel)
theorem uw_771 : (Jvm.Cond.methodLink "CoalHolesLaw" (76 : Nat) ({ cls := "CoalHoles", name := "lasts", desc := "(I)I" } : Jvm.MethodName)) ∈ Uw := Uw_of 771 (by decide +kernel) (by decide +kernel)
theorem uw_772 : (Jvm.Cond.instanceMethod ({ cls := "CoalHoles", name := "lasts", desc := "(I)I" } : Jvm.MethodName)) ∈ Uw := Uw_of 772 (by decide +kernel) (by decide +kernel)
theorem uw_773 : (Jvm.Cond.selects "CoalHoles" ({ cls := "CoalHoles", name := "lasts", desc := "(I)I" } : Jvm.MethodName) ({ cls := "CoalHoles", name := "lasts", desc := "(I)I" } : Jvm.MethodName)) ∈ Uw := Uw_of 773 (by decide +kernel) (by decide +kernel)
theorem uw_774 : (Jvm.Cond.code ({ cls := "CoalHoles", name := "lasts", desc := "(I)I" } : Jvm.MethodName) prog_1_method_14_code (2 : Nat) (Option.some Jvm.ClassFile.FieldType.int)) ∈ Uw := Uw_of 774 (by decide +kernel) (by decide +kernel)
theorem uw_775 : (Jvm.Cond.methodLink "CoalHoles" (183 : Nat) ({ cls := "CoalHoles$State", name := "daysUntilBelow", desc := "(LCoalHoles$Terrace;II)I" } : Jvm.MethodName)) ∈ Uw := Uw_of 775 (by decide +kernel) (by decide +kernel)
theorem uw_776 : (Jvm.Cond.instanceMethod ({ cls := "CoalHoles$State", name := "daysUntilBelow", desc := "(LCoalHoles$Terrace;II)I" } : Jvm.MethodName)) ∈ Uw := Uw_of 776 (by decide +kernel) (by decide +kernel)
theorem uw_777 : (Jvm.Cond.selects "CoalHoles$State" ({ cls := "CoalHoles$State", name := "daysUntilBelow", desc := "(LCoalHoles$Terrace;II)I" } : Jvm.MethodName) ({ cls := "CoalHoles$State", name := "daysUntilBelow", desc := "(LCoalHoles$Terrace;II)I" } : Jvm.MethodName)) ∈ Uw := Uw_of 777 (by decide +kernel) (by decide +kernel)
theorem uw_778 : (Jvm.Cond.code ({ cls := "CoalHoles$State", name := "daysUntilBelow", desc := "(LCoalHoles$Terrace;II)I" } : Jvm.MethodName) prog_6_method_18_code (6 : Nat) (Option.some Jvm.ClassFile.FieldType.int)) ∈ Uw := Uw_of 778 (by decide +kernel) (by decide +kernel)
theorem uw_779 : (Jvm.Cond.methodLink "CoalHolesLaw" (80 : Nat) ({ cls := "CoalHoles", name := "safe", desc := "(I)I" } : Jvm.MethodName)) ∈ Uw := Uw_of 779 (by decide +kernel) (by decide +kernel)
theorem uw_780 : (Jvm.Cond.instanceMethod ({ cls := "CoalHoles", name := "safe", desc := "(I)I" } : Jvm.MethodName)) ∈ Uw := Uw_of 780 (by decide +kernel) (by decide +kernel)
theorem uw_781 : (Jvm.Cond.selects "CoalHoles" ({ cls := "CoalHoles", name := "safe", desc := "(I)I" } : Jvm.MethodName) ({ cls := "CoalHoles", name := "safe", desc := "(I)I" } : Jvm.MethodName)) ∈ Uw := Uw_of 781 (by decide +kernel) (by decide +kernel)
theorem uw_782 : (Jvm.Cond.code ({ cls := "CoalHoles", name := "safe", desc := "(I)I" } : Jvm.MethodName) prog_1_method_15_code (3 : Nat) (Option.some Jvm.ClassFile.FieldType.int)) ∈ Uw := Uw_of 782 (by decide +kernel) (by decide +kernel)
theorem uw_783 : (Jvm.Cond.methodLink "CoalHoles" (187 : Nat) ({ cls := "CoalHoles$State", name := "safeDays", desc := "(LCoalHoles$Terrace;II)I" } : Jvm.MethodName)) ∈ Uw := Uw_of 783 (by decide +kernel) (by decide +kernel)
theorem uw_784 : (Jvm.Cond.instanceMethod ({ cls := "CoalHoles$State", name := "safeDays", desc := "(LCoalHoles$Terrace;II)I" } : Jvm.MethodName)) ∈ Uw := Uw_of 784 (by decide +kernel) (by decide +kernel)
theorem uw_785 : (Jvm.Cond.selects "CoalHoles$State" ({ cls := "CoalHoles$State", name := "safeDays", desc := "(LCoalHoles$Terrace;II)I" } : Jvm.MethodName) ({ cls := "CoalHoles$State", name := "safeDays", desc := "(LCoalHoles$Terrace;II)I" } : Jvm.MethodName)) ∈ Uw := Uw_of 785 (by decide +kernel) (by decide +kernel)
theorem uw_786 : (Jvm.Cond.code ({ cls := "CoalHoles$State", name := "safeDays", desc := "(LCoalHoles$Terrace;II)I" } : Jvm.MethodName) prog_6_method_19_code (4 : Nat) (Option.some Jvm.ClassFile.FieldType.int)) ∈ Uw := Uw_of 786 (by decide +kernel) (by decide +kernel)
theorem uw_787 : (Jvm.Cond.methodLink "CoalHoles$State" (123 : Nat) ({ cls := "CoalHoles$State", name := "daysUntilBelow", desc := "(LCoalHoles$Terrace;II)I" } : Jvm.MethodName)) ∈ Uw := Uw_of 787 (by decide +kernel) (by decide +kernel)
theorem uw_788 : (Jvm.Cond.methodLink "CoalHolesLaw" (84 : Nat) ({ cls := "CoalHoles", name := "refuge", desc := "(I)I" } : Jvm.MethodName)) ∈ Uw := Uw_of 788 (by decide +kernel) (by decide +kernel)
theorem uw_789 : (Jvm.Cond.instanceMethod ({ cls := "CoalHoles", name := "refuge", desc := "(I)I" } : Jvm.MethodName)) ∈ Uw := Uw_of 789 (by decide +kernel) (by decide +kernel)
theorem uw_790 : (Jvm.Cond.selects "CoalHoles" ({ cls := "CoalHoles", name := "refuge", desc := "(I)I" } : Jvm.MethodName) ({ cls := "CoalHoles", name := "refuge", desc := "(I)I" } : Jvm.MethodName)) ∈ Uw := Uw_of 790 (by decide +kernel) (by decide +kernel)
theorem uw_791 : (Jvm.Cond.code ({ cls := "CoalHoles", name := "refuge", desc := "(I)I" } : Jvm.MethodName) prog_1_method_16_code (6 : Nat) (Option.some Jvm.ClassFile.FieldType.int)) ∈ Uw := Uw_of 791 (by decide +kernel) (by decide +kernel)
theorem uw_792 : (Jvm.Cond.methodLink "CoalHoles" (190 : Nat) ({ cls := "CoalHoles$State", name := "streetBits", desc := "(LCoalHoles$Terrace;)I" } : Jvm.MethodName)) ∈ Uw := Uw_of 792 (by decide +kernel) (by decide +kernel)
theorem uw_793 : (Jvm.Cond.methodLink "CoalHoles" (196 : Nat) ({ cls := "CoalHoles$State", name := "takes", desc := "(LCoalHoles$Terrace;II)Z" } : Jvm.MethodName)) ∈ Uw := Uw_of 793 (by decide +kernel) (by decide +kernel)
theorem uw_794 : (Jvm.Cond.methodLink "CoalHolesLaw" (88 : Nat) ({ cls := "CoalHoles", name := "sacks", desc := "(II)I" } : Jvm.MethodName)) ∈ Uw := Uw_of 794 (by decide +kernel) (by decide +kernel)
theorem uw_795 : (Jvm.Cond.instanceMethod ({ cls := "CoalHoles", name := "sacks", desc := "(II)I" } : Jvm.MethodName)) ∈ Uw := Uw_of 795 (by decide +kernel) (by decide +kernel)
theorem uw_796 : (Jvm.Cond.selects "CoalHoles" ({ cls := "CoalHoles", name := "sacks", desc := "(II)I" } : Jvm.MethodName) ({ cls := "CoalHoles", name := "sacks", desc := "(II)I" } : Jvm.MethodName)) ∈ Uw := Uw_of 796 (by decide +kernel) (by decide +kernel)
theorem uw_797 : (Jvm.Cond.code ({ cls := "CoalHoles", name := "sacks", desc := "(II)I" } : Jvm.MethodName) prog_1_method_17_code (7 : Nat) (Option.some Jvm.ClassFile.FieldType.int)) ∈ Uw := Uw_of 797 (by decide +kernel) (by decide +kernel)
theorem uw_798 : (Jvm.Cond.methodLink "CoalHoles" (206 : Nat) ({ cls := "CoalHoles$State", name := "sacksDue", desc := "(LCoalHoles$Terrace;II)I" } : Jvm.MethodName)) ∈ Uw := Uw_of 798 (by decide +kernel) (by decide +kernel)
theorem uw_799 : (Jvm.Cond.instanceMethod ({ cls := "CoalHoles$State", name := "sacksDue", desc := "(LCoalHoles$Terrace;II)I" } : Jvm.MethodName)) ∈ Uw := Uw_of 799 (by decide +kernel) (by decide +kernel)
theorem uw_800 : (Jvm.Cond.selects "CoalHoles$State" ({ cls := "CoalHoles$State", name := "sacksDue", desc := "(LCoalHoles$Terrace;II)I" } : Jvm.MethodName) ({ cls := "CoalHoles$State", name := "sacksDue", desc := "(LCoalHoles$Terrace;II)I" } : Jvm.MethodName)) ∈ Uw := Uw_of 800 (by decide +kernel) (by decide +kernel)
theorem uw_801 : (Jvm.Cond.code ({ cls := "CoalHoles$State", name := "sacksDue", desc := "(LCoalHoles$Terrace;II)I" } : Jvm.MethodName) prog_6_method_22_code (6 : Nat) (Option.some Jvm.ClassFile.FieldType.int)) ∈ Uw := Uw_of 801 (by decide +kernel) (by decide +kernel)
theorem uw_802 : (Jvm.Cond.methodLink "CoalHoles$State" (127 : Nat) ({ cls := "CoalHoles$Terrace", name := "coldOver", desc := "(II)I" } : Jvm.MethodName)) ∈ Uw := Uw_of 802 (by decide +kernel) (by decide +kernel)
theorem uw_803 : (Jvm.Cond.instanceMethod ({ cls := "CoalHoles$Terrace", name := "coldOver", desc := "(II)I" } : Jvm.MethodName)) ∈ Uw := Uw_of 803 (by decide +kernel) (by decide +kernel)
theorem uw_804 : (Jvm.Cond.selects "CoalHoles$Terrace" ({ cls := "CoalHoles$Terrace", name := "coldOver", desc := "(II)I" } : Jvm.MethodName) ({ cls := "CoalHoles$Terrace", name := "coldOver", desc := "(II)I" } : Jvm.MethodName)) ∈ Uw := Uw_of 804 (by decide +kernel) (by decide +kernel)
theorem uw_805 : (Jvm.Cond.code ({ cls := "CoalHoles$Terrace", name := "coldOver", desc := "(II)I" } : Jvm.MethodName) prog_8_method_23_code (5 : Nat) (Option.some Jvm.ClassFile.FieldType.int)) ∈ Uw := Uw_of 805 (by decide +kernel) (by decide +kernel)
theorem uw_806 : (Jvm.Cond.methodLink "CoalHoles$Terrace" (171 : Nat) ({ cls := "CoalHoles$Terrace", name := "coldOf", desc := "(I)I" } : Jvm.MethodName)) ∈ Uw := Uw_of 806 (by decide +kernel) (by decide +kernel)
theorem uw_807 : (Jvm.Cond.methodLink "CoalHolesLaw" (92 : Nat) ({ cls := "CoalHoles", name := "lodging", desc := "(II)I" } : Jvm.MethodName)) ∈ Uw := Uw_of 807 (by decide +kernel) (by decide +kernel)
theorem uw_808 : (Jvm.Cond.instanceMethod ({ cls := "CoalHoles", name := "lodging", desc := "(II)I" } : Jvm.MethodName)) ∈ Uw := Uw_of 808 (by decide +kernel) (by decide +kernel)
theorem uw_809 : (Jvm.Cond.selects "CoalHoles" ({ cls := "CoalHoles", name := "lodging", desc := "(II)I" } : Jvm.MethodName) ({ cls := "CoalHoles", name := "lodging", desc := "(II)I" } : Jvm.MethodName)) ∈ Uw := Uw_of 809 (by decide +kernel) (by decide +kernel)
theorem uw_810 : (Jvm.Cond.code ({ cls := "CoalHoles", name := "lodging", desc := "(II)I" } : Jvm.MethodName) prog_1_method_18_code (3 : Nat) (Option.some Jvm.ClassFile.FieldType.int)) ∈ Uw := Uw_of 810 (by decide +kernel) (by decide +kernel)
theorem uw_811 : (Jvm.Cond.methodLink "CoalHoles" (212 : Nat) ({ cls := "CoalHoles$Lodgings", name := "search", desc := "(LCoalHoles$Terrace;LCoalHoles$State;I)V" } : Jvm.MethodName)) ∈ Uw := Uw_of 811 (by decide +kernel) (by decide +kernel)
theorem uw_812 : (Jvm.Cond.instanceMethod ({ cls := "CoalHoles$Lodgings", name := "search", desc := "(LCoalHoles$Terrace;LCoalHoles$State;I)V" } : Jvm.MethodName)) ∈ Uw := Uw_of 812 (by decide +kernel) (by decide +kernel)
theorem uw_813 : (Jvm.Cond.selects "CoalHoles$Lodgings" ({ cls := "CoalHoles$Lodgings", name := "search", desc := "(LCoalHoles$Terrace;LCoalHoles$State;I)V" } : Jvm.MethodName) ({ cls := "CoalHoles$Lodgings", name := "search", desc := "(LCoalHoles$Terrace;LCoalHoles$State;I)V" } : Jvm.MethodName)) ∈ Uw := Uw_of 813 (by decide +kernel) (by decide +kernel)
theorem uw_814 : (Jvm.Cond.code ({ cls := "CoalHoles$Lodgings", name := "search", desc := "(LCoalHoles$Terrace;LCoalHoles$State;I)V" } : Jvm.MethodName) prog_4_method_2_code (6 : Nat) (Option.none : Option Jvm.ClassFile.FieldType)) ∈ Uw := Uw_of 814 (by decide +kernel) (by decide +kernel)
theorem uw_815 : (Jvm.Cond.methodLink "CoalHoles$Lodgings" (24 : Nat) ({ cls := "CoalHoles$State", name := "streetBits", desc := "(LCoalHoles$Terrace;)I" } : Jvm.MethodName)) ∈ Uw := Uw_of 815 (by decide +kernel) (by decide +kernel)
theorem uw_816 : (Jvm.Cond.methodLink "CoalHoles$Lodgings" (37 : Nat) ({ cls := "CoalHoles$Terrace", name := "coldOver", desc := "(II)I" } : Jvm.MethodName)) ∈ Uw := Uw_of 816 (by decide +kernel) (by decide +kernel)
theorem uw_817 : (Jvm.Cond.methodLink "CoalHoles$Lodgings" (43 : Nat) ({ cls := "CoalHoles$State", name := "lastingBits", desc := "(LCoalHoles$Terrace;I)I" } : Jvm.MethodName)) ∈ Uw := Uw_of 817 (by decide +kernel) (by decide +kernel)
theorem uw_818 : (Jvm.Cond.instanceMethod ({ cls := "CoalHoles$State", name := "lastingBits", desc := "(LCoalHoles$Terrace;I)I" } : Jvm.MethodName)) ∈ Uw := Uw_of 818 (by decide +kernel) (by decide +kernel)
theorem uw_819 : (Jvm.Cond.selects "CoalHoles$State" ({ cls := "CoalHoles$State", name := "lastingBits", desc := "(LCoalHoles$Terrace;I)I" } : Jvm.MethodName) ({ cls := "CoalHoles$State", name := "lastingBits", desc := "(LCoalHoles$Terrace;I)I" } : Jvm.MethodName)) ∈ Uw := Uw_of 819 (by decide +kernel) (by decide +kernel)
theorem uw_820 : (Jvm.Cond.code ({ cls := "CoalHoles$State", name := "lastingBits", desc := "(LCoalHoles$Terrace;I)I" } : Jvm.MethodName) prog_6_method_20_code (5 : Nat) (Option.some Jvm.ClassFile.FieldType.int)) ∈ Uw := Uw_of 820 (by decide +kernel) (by decide +kernel)
theorem uw_821 : (Jvm.Cond.methodLink "CoalHoles$Lodgings" (50 : Nat) ({ cls := "CoalHoles$State", name := "seizedIfLasting", desc := "(LCoalHoles$Terrace;I)I" } : Jvm.MethodName)) ∈ Uw := Uw_of 821 (by decide +kernel) (by decide +kernel)
theorem uw_822 : (Jvm.Cond.instanceMethod ({ cls := "CoalHoles$State", name := "seizedIfLasting", desc := "(LCoalHoles$Terrace;I)I" } : Jvm.MethodName)) ∈ Uw := Uw_of 822 (by decide +kernel) (by decide +kernel)
theorem uw_823 : (Jvm.Cond.selects "CoalHoles$State" ({ cls := "CoalHoles$State", name := "seizedIfLasting", desc := "(LCoalHoles$Terrace;I)I" } : Jvm.MethodName) ({ cls := "CoalHoles$State", name := "seizedIfLasting", desc := "(LCoalHoles$Terrace;I)I" } : Jvm.MethodName)) ∈ Uw := Uw_of 823 (by decide +kernel) (by decide +kernel)
theorem uw_824 : (Jvm.Cond.code ({ cls := "CoalHoles$State", name := "seizedIfLasting", desc := "(LCoalHoles$Terrace;I)I" } : Jvm.MethodName) prog_6_method_21_code (5 : Nat) (Option.some Jvm.ClassFile.FieldType.int)) ∈ Uw := Uw_of 824 (by decide +kernel) (by decide +kernel)
theorem uw_825 : (Jvm.Cond.methodLink "CoalHoles$Lodgings" (53 : Nat) ({ cls := "CoalHoles$Lodgings", name := "learnLaw", desc := "(LCoalHoles$Terrace;LCoalHoles$State;)V" } : Jvm.MethodName)) ∈ Uw := Uw_of 825 (by decide +kernel) (by decide +kernel)
theorem uw_827 : (Jvm.Cond.instanceMethod ({ cls := "CoalHoles$Lodgings", name := "learnLaw", desc := "(LCoalHoles$Terrace;LCoalHoles$State;)V" } : Jvm.MethodName)) ∈ Uw := Uw_of 827 (by decide +kernel) (by decide +kernel)
theorem uw_828 : (Jvm.Cond.code ({ cls := "CoalHoles$Lodgings", name := "learnLaw", desc := "(LCoalHoles$Terrace;LCoalHoles$State;)V" } : Jvm.MethodName) prog_4_method_4_code (6 : Nat) (Option.none : Option Jvm.ClassFile.FieldType)) ∈ Uw := Uw_of 828 (by decide +kernel) (by decide +kernel)
theorem uw_829 : (Jvm.Cond.methodLink "CoalHoles$Lodgings" (91 : Nat) ({ cls := "CoalHoles$State", name := "isLawful", desc := "(LCoalHoles$Terrace;III)Z" } : Jvm.MethodName)) ∈ Uw := Uw_of 829 (by decide +kernel) (by decide +kernel)
theorem uw_830 : (Jvm.Cond.methodLink "CoalHoles$Lodgings" (60 : Nat) ({ cls := "CoalHoles$Lodgings", name := "isLodged", desc := "(I)Z" } : Jvm.MethodName)) ∈ Uw := Uw_of 830 (by decide +kernel) (by decide +kernel)
theorem uw_832 : (Jvm.Cond.instanceMethod ({ cls := "CoalHoles$Lodgings", name := "isLodged", desc := "(I)Z" } : Jvm.MethodName)) ∈ Uw := Uw_of 832 (by decide +kernel) (by decide +kernel)
theorem uw_833 : (Jvm.Cond.code ({ cls := "CoalHoles$Lodgings", name := "isLodged", desc := "(I)Z" } : Jvm.MethodName) prog_4_method_3_code (2 : Nat) (Option.some Jvm.ClassFile.FieldType.boolean)) ∈ Uw := Uw_of 833 (by decide +kernel) (by decide +kernel)
theorem uw_834 : (Jvm.Cond.methodLink "CoalHoles$Lodgings" (64 : Nat) ({ cls := "CoalHoles$Lodgings", name := "leastCost", desc := "(LCoalHoles$Terrace;LCoalHoles$State;I)I" } : Jvm.MethodName)) ∈ Uw := Uw_of 834 (by decide +kernel) (by decide +kernel)
theorem uw_836 : (Jvm.Cond.instanceMethod ({ cls := "CoalHoles$Lodgings", name := "leastCost", desc := "(LCoalHoles$Terrace;LCoalHoles$State;I)I" } : Jvm.MethodName)) ∈ Uw := Uw_of 836 (by decide +kernel) (by decide +kernel)
theorem uw_837 : (Jvm.Cond.code ({ cls := "CoalHoles$Lodgings", name := "leastCost", desc := "(LCoalHoles$Terrace;LCoalHoles$State;I)I" } : Jvm.MethodName) prog_4_method_8_code (6 : Nat) (Option.some Jvm.ClassFile.FieldType.int)) ∈ Uw := Uw_of 837 (by decide +kernel) (by decide +kernel)
theorem uw_838 : (Jvm.Cond.methodLink "CoalHoles$Lodgings" (112 : Nat) ({ cls := "CoalHoles$Lodgings", name := "costOf", desc := "(LCoalHoles$Terrace;II)I" } : Jvm.MethodName)) ∈ Uw := Uw_of 838 (by decide +kernel) (by decide +kernel)
theorem uw_840 : (Jvm.Cond.instanceMethod ({ cls := "CoalHoles$Lodgings", name := "costOf", desc := "(LCoalHoles$Terrace;II)I" } : Jvm.MethodName)) ∈ Uw := Uw_of 840 (by decide +kernel) (by decide +kernel)
theorem uw_841 : (Jvm.Cond.code ({ cls := "CoalHoles$Lodgings", name := "costOf", desc := "(LCoalHoles$Terrace;II)I" } : Jvm.MethodName) prog_4_method_7_code (5 : Nat) (Option.some Jvm.ClassFile.FieldType.int)) ∈ Uw := Uw_of 841 (by decide +kernel) (by decide +kernel)
theorem uw_842 : (Jvm.Cond.methodLink "CoalHoles$Lodgings" (102 : Nat) ({ cls := "CoalHoles$Lodgings", name := "lawfulFromNow", desc := "(LCoalHoles$Terrace;LCoalHoles$State;II)I" } : Jvm.MethodName)) ∈ Uw := Uw_of 842 (by decide +kernel) (by decide +kernel)
theorem uw_844 : (Jvm.Cond.instanceMethod ({ cls := "CoalHoles$Lodgings", name := "lawfulFromNow", desc := "(LCoalHoles$Terrace;LCoalHoles$State;II)I" } : Jvm.MethodName)) ∈ Uw := Uw_of 844 (by decide +kernel) (by decide +kernel)
theorem uw_845 : (Jvm.Cond.code ({ cls := "CoalHoles$Lodgings", name := "lawfulFromNow", desc := "(LCoalHoles$Terrace;LCoalHoles$State;II)I" } : Jvm.MethodName) prog_4_method_6_code (6 : Nat) (Option.some Jvm.ClassFile.FieldType.int)) ∈ Uw := Uw_of 845 (by decide +kernel) (by decide +kernel)
theorem uw_846 : (Jvm.Cond.methodLink "CoalHoles$Lodgings" (78 : Nat) ({ cls := "java/lang/Integer", name := "bitCount", desc := "(I)I" } : Jvm.MethodName)) ∈ Uw := Uw_of 846 (by decide +kernel) (by decide +kernel)
theorem uw_847 : (Jvm.Cond.methodLink "CoalHoles$Lodgings" (116 : Nat) ({ cls := "java/lang/Math", name := "min", desc := "(II)I" } : Jvm.MethodName)) ∈ Uw := Uw_of 847 (by decide +kernel) (by decide +kernel)
theorem uw_848 : (Jvm.Cond.constant "CoalHoles$Lodgings" (70 : Nat) (2147483647 : Int32)) ∈ Uw := Uw_of 848 (by decide +kernel) (by decide +kernel)
theorem uw_849 : (Jvm.Cond.methodLink "CoalHoles$Lodgings" (74 : Nat) ({ cls := "CoalHoles$Lodgings", name := "lodge", desc := "(LCoalHoles$Lodgings;LCoalHoles$Terrace;LCoalHoles$State;II)V" } : Jvm.MethodName)) ∈ Uw := Uw_of 849 (by decide +kernel) (by decide +kernel)
theorem uw_850 : (Jvm.Cond.static ({ cls := "CoalHoles$Lodgings", name := "lodge", desc := "(LCoalHoles$Lodgings;LCoalHoles$Terrace;LCoalHoles$State;II)V" } : Jvm.MethodName)) ∈ Uw := Uw_of 850 (by decide +kernel) (by decide +kernel)
theorem uw_851 : (Jvm.Cond.code ({ cls := "CoalHoles$Lodgings", name := "lodge", desc := "(LCoalHoles$Lodgings;LCoalHoles$Terrace;LCoalHoles$State;II)V" } : Jvm.MethodName) prog_4_method_9_code (6 : Nat) (Option.none : Option Jvm.ClassFile.FieldType)) ∈ Uw := Uw_of 851 (by decide +kernel) (by decide +kernel)
theorem uw_852 : (Jvm.Cond.methodLink "CoalHoles$Lodgings" (121 : Nat) ({ cls := "CoalHoles$Lodgings", name := "keepRow", desc := "(II)V" } : Jvm.MethodName)) ∈ Uw := Uw_of 852 (by decide +kernel) (by decide +kernel)
theorem uw_854 : (Jvm.Cond.instanceMethod ({ cls := "CoalHoles$Lodgings", name := "keepRow", desc := "(II)V" } : Jvm.MethodName)) ∈ Uw := Uw_of 854 (by decide +kernel) (by decide +kernel)
theorem uw_855 : (Jvm.Cond.code ({ cls := "CoalHoles$Lodgings", name := "keepRow", desc := "(II)V" } : Jvm.MethodName) prog_4_method_10_code (4 : Nat) (Option.none : Option Jvm.ClassFile.FieldType)) ∈ Uw := Uw_of 855 (by decide +kernel) (by decide +kernel)
theorem uw_856 : (Jvm.Cond.methodLink "CoalHoles$Lodgings" (125 : Nat) ({ cls := "CoalHoles$Lodgings", name := "isTaken", desc := "(LCoalHoles$Terrace;LCoalHoles$State;II)Z" } : Jvm.MethodName)) ∈ Uw := Uw_of 856 (by decide +kernel) (by decide +kernel)
theorem uw_858 : (Jvm.Cond.instanceMethod ({ cls := "CoalHoles$Lodgings", name := "isTaken", desc := "(LCoalHoles$Terrace;LCoalHoles$State;II)Z" } : Jvm.MethodName)) ∈ Uw := Uw_of 858 (by decide +kernel) (by decide +kernel)
theorem uw_859 : (Jvm.Cond.code ({ cls := "CoalHoles$Lodgings", name := "isTaken", desc := "(LCoalHoles$Terrace;LCoalHoles$State;II)Z" } : Jvm.MethodName) prog_4_method_5_code (5 : Nat) (Option.some Jvm.ClassFile.FieldType.boolean)) ∈ Uw := Uw_of 859 (by decide +kernel) (by decide +kernel)
theorem uw_860 : (Jvm.Cond.methodLink "CoalHoles$Lodgings" (98 : Nat) ({ cls := "CoalHoles$State", name := "isPeaceful", desc := "(LCoalHoles$Terrace;II)Z" } : Jvm.MethodName)) ∈ Uw := Uw_of 860 (by decide +kernel) (by decide +kernel)
theorem uw_861 : (Jvm.Cond.methodLink "CoalHolesLaw" (96 : Nat) ({ cls := "CoalHoles", name := "note", desc := "(II)I" } : Jvm.MethodName)) ∈ Uw := Uw_of 861 (by decide +kernel) (by decide +kernel)
theorem uw_862 : (Jvm.Cond.instanceMethod ({ cls := "CoalHoles", name := "note", desc := "(II)I" } : Jvm.MethodName)) ∈ Uw := Uw_of 862 (by decide +kernel) (by decide +kernel)
theorem uw_863 : (Jvm.Cond.selects "CoalHoles" ({ cls := "CoalHoles", name := "note", desc := "(II)I" } : Jvm.MethodName) ({ cls := "CoalHoles", name := "note", desc := "(II)I" } : Jvm.MethodName)) ∈ Uw := Uw_of 863 (by decide +kernel) (by decide +kernel)
theorem uw_864 : (Jvm.Cond.code ({ cls := "CoalHoles", name := "note", desc := "(II)I" } : Jvm.MethodName) prog_1_method_19_code (5 : Nat) (Option.some Jvm.ClassFile.FieldType.int)) ∈ Uw := Uw_of 864 (by decide +kernel) (by decide +kernel)
theorem uw_865 : (Jvm.Cond.methodLink "CoalHoles" (220 : Nat) ({ cls := "CoalHoles$Terrace", name := "besideBits", desc := "(I)I" } : Jvm.MethodName)) ∈ Uw := Uw_of 865 (by decide +kernel) (by decide +kernel)
theorem uw_866 : (Jvm.Cond.instanceMethod ({ cls := "CoalHoles$Terrace", name := "besideBits", desc := "(I)I" } : Jvm.MethodName)) ∈ Uw := Uw_of 866 (by decide +kernel) (by decide +kernel)
theorem uw_867 : (Jvm.Cond.selects "CoalHoles$Terrace" ({ cls := "CoalHoles$Terrace", name := "besideBits", desc := "(I)I" } : Jvm.MethodName) ({ cls := "CoalHoles$Terrace", name := "besideBits", desc := "(I)I" } : Jvm.MethodName)) ∈ Uw := Uw_of 867 (by decide +kernel) (by decide +kernel)
theorem uw_868 : (Jvm.Cond.code ({ cls := "CoalHoles$Terrace", name := "besideBits", desc := "(I)I" } : Jvm.MethodName) prog_8_method_21_code (4 : Nat) (Option.some Jvm.ClassFile.FieldType.int)) ∈ Uw := Uw_of 868 (by decide +kernel) (by decide +kernel)
theorem uw_869 : (Jvm.Cond.methodLink "CoalHolesLaw" (100 : Nat) ({ cls := "CoalHoles", name := "full", desc := "()I" } : Jvm.MethodName)) ∈ Uw := Uw_of 869 (by decide +kernel) (by decide +kernel)
theorem uw_870 : (Jvm.Cond.instanceMethod ({ cls := "CoalHoles", name := "full", desc := "()I" } : Jvm.MethodName)) ∈ Uw := Uw_of 870 (by decide +kernel) (by decide +kernel)
theorem uw_871 : (Jvm.Cond.selects "CoalHoles" ({ cls := "CoalHoles", name := "full", desc := "()I" } : Jvm.MethodName) ({ cls := "CoalHoles", name := "full", desc := "()I" } : Jvm.MethodName)) ∈ Uw := Uw_of 871 (by decide +kernel) (by decide +kernel)
theorem uw_872 : (Jvm.Cond.code ({ cls := "CoalHoles", name := "full", desc := "()I" } : Jvm.MethodName) prog_1_method_20_code (4 : Nat) (Option.some Jvm.ClassFile.FieldType.int)) ∈ Uw := Uw_of 872 (by decide +kernel) (by decide +kernel)
theorem uw_873 : (Jvm.Cond.methodLink "CoalHolesLaw" (104 : Nat) ({ cls := "CoalHoles", name := "pairs", desc := "()I" } : Jvm.MethodName)) ∈ Uw := Uw_of 873 (by decide +kernel) (by decide +kernel)
theorem uw_874 : (Jvm.Cond.instanceMethod ({ cls := "CoalHoles", name := "pairs", desc := "()I" } : Jvm.MethodName)) ∈ Uw := Uw_of 874 (by decide +kernel) (by decide +kernel)
theorem uw_875 : (Jvm.Cond.selects "CoalHoles" ({ cls := "CoalHoles", name := "pairs", desc := "()I" } : Jvm.MethodName) ({ cls := "CoalHoles", name := "pairs", desc := "()I" } : Jvm.MethodName)) ∈ Uw := Uw_of 875 (by decide +kernel) (by decide +kernel)
theorem uw_876 : (Jvm.Cond.code ({ cls := "CoalHoles", name := "pairs", desc := "()I" } : Jvm.MethodName) prog_1_method_21_code (3 : Nat) (Option.some Jvm.ClassFile.FieldType.int)) ∈ Uw := Uw_of 876 (by decide +kernel) (by decide +kernel)
theorem uw_877 : (Jvm.Cond.methodLink "CoalHoles" (226 : Nat) ({ cls := "java/lang/Integer", name := "bitCount", desc := "(I)I" } : Jvm.MethodName)) ∈ Uw := Uw_of 877 (by decide +kernel) (by decide +kernel)
theorem uw_878 : (Jvm.Cond.methodLink "CoalHolesLaw" (108 : Nat) ({ cls := "CoalHoles", name := "line", desc := "(II)I" } : Jvm.MethodName)) ∈ Uw := Uw_of 878 (by decide +kernel) (by decide +kernel)
theorem uw_879 : (Jvm.Cond.instanceMethod ({ cls := "CoalHoles", name := "line", desc := "(II)I" } : Jvm.MethodName)) ∈ Uw := Uw_of 879 (by decide +kernel) (by decide +kernel)
theorem uw_880 : (Jvm.Cond.selects "CoalHoles" ({ cls := "CoalHoles", name := "line", desc := "(II)I" } : Jvm.MethodName) ({ cls := "CoalHoles", name := "line", desc := "(II)I" } : Jvm.MethodName)) ∈ Uw := Uw_of 880 (by decide +kernel) (by decide +kernel)
theorem uw_881 : (Jvm.Cond.code ({ cls := "CoalHoles", name := "line", desc := "(II)I" } : Jvm.MethodName) prog_1_method_22_code (4 : Nat) (Option.some Jvm.ClassFile.FieldType.int)) ∈ Uw := Uw_of 881 (by decide +kernel) (by decide +kernel)
theorem uw_882 : (Jvm.Cond.methodLink "CoalHoles" (231 : Nat) ({ cls := "CoalHoles$Terrace", name := "areAtWar", desc := "(II)Z" } : Jvm.MethodName)) ∈ Uw := Uw_of 882 (by decide +kernel) (by decide +kernel)
theorem uw_883 : (Jvm.Cond.instanceMethod ({ cls := "CoalHoles$Terrace", name := "areAtWar", desc := "(II)Z" } : Jvm.MethodName)) ∈ Uw := Uw_of 883 (by decide +kernel) (by decide +kernel)
theorem uw_884 : (Jvm.Cond.selects "CoalHoles$Terrace" ({ cls := "CoalHoles$Terrace", name := "areAtWar", desc := "(II)Z" } : Jvm.MethodName) ({ cls := "CoalHoles$Terrace", name := "areAtWar", desc := "(II)Z" } : Jvm.MethodName)) ∈ Uw := Uw_of 884 (by decide +kernel) (by decide +kernel)
theorem uw_885 : (Jvm.Cond.code ({ cls := "CoalHoles$Terrace", name := "areAtWar", desc := "(II)Z" } : Jvm.MethodName) prog_8_method_20_code (3 : Nat) (Option.some Jvm.ClassFile.FieldType.boolean)) ∈ Uw := Uw_of 885 (by decide +kernel) (by decide +kernel)
theorem uw_886 : (Jvm.Cond.methodLink "CoalHoles$Terrace" (167 : Nat) ({ cls := "CoalHoles$Terrace", name := "hasGuest", desc := "(I)Z" } : Jvm.MethodName)) ∈ Uw := Uw_of 886 (by decide +kernel) (by decide +kernel)
theorem uw_887 : (Jvm.Cond.methodLink "CoalHolesLaw" (112 : Nat) ({ cls := "CoalHoles", name := "hear", desc := "(IZ)Z" } : Jvm.MethodName)) ∈ Uw := Uw_of 887 (by decide +kernel) (by decide +kernel)
theorem uw_888 : (Jvm.Cond.instanceMethod ({ cls := "CoalHoles", name := "hear", desc := "(IZ)Z" } : Jvm.MethodName)) ∈ Uw := Uw_of 888 (by decide +kernel) (by decide +kernel)
theorem uw_889 : (Jvm.Cond.selects "CoalHoles" ({ cls := "CoalHoles", name := "hear", desc := "(IZ)Z" } : Jvm.MethodName) ({ cls := "CoalHoles", name := "hear", desc := "(IZ)Z" } : Jvm.MethodName)) ∈ Uw := Uw_of 889 (by decide +kernel) (by decide +kernel)
theorem uw_890 : (Jvm.Cond.code ({ cls := "CoalHoles", name := "hear", desc := "(IZ)Z" } : Jvm.MethodName) prog_1_method_23_code (3 : Nat) (Option.some Jvm.ClassFile.FieldType.boolean)) ∈ Uw := Uw_of 890 (by decide +kernel) (by decide +kernel)
theorem uw_891 : (Jvm.Cond.methodLink "CoalHoles" (235 : Nat) ({ cls := "CoalHoles$Heard", name := "add", desc := "(IZ)Z" } : Jvm.MethodName)) ∈ Uw := Uw_of 891 (by decide +kernel) (by decide +kernel)
theorem uw_892 : (Jvm.Cond.instanceMethod ({ cls := "CoalHoles$Heard", name := "add", desc := "(IZ)Z" } : Jvm.MethodName)) ∈ Uw := Uw_of 892 (by decide +kernel) (by decide +kernel)
theorem uw_893 : (Jvm.Cond.selects "CoalHoles$Heard" ({ cls := "CoalHoles$Heard", name := "add", desc := "(IZ)Z" } : Jvm.MethodName) ({ cls := "CoalHoles$Heard", name := "add", desc := "(IZ)Z" } : Jvm.MethodName)) ∈ Uw := Uw_of 893 (by decide +kernel) (by decide +kernel)
theorem uw_894 : (Jvm.Cond.code ({ cls := "CoalHoles$Heard", name := "add", desc := "(IZ)Z" } : Jvm.MethodName) prog_2_method_2_code (3 : Nat) (Option.some Jvm.ClassFile.FieldType.boolean)) ∈ Uw := Uw_of 894 (by decide +kernel) (by decide +kernel)
theorem uw_895 : (Jvm.Cond.methodLink "CoalHolesLaw" (117 : Nat) ({ cls := "CoalHoles", name := "coals", desc := "(I)I" } : Jvm.MethodName)) ∈ Uw := Uw_of 895 (by decide +kernel) (by decide +kernel)
theorem uw_896 : (Jvm.Cond.instanceMethod ({ cls := "CoalHoles", name := "coals", desc := "(I)I" } : Jvm.MethodName)) ∈ Uw := Uw_of 896 (by decide +kernel) (by decide +kernel)
theorem uw_897 : (Jvm.Cond.selects "CoalHoles" ({ cls := "CoalHoles", name := "coals", desc := "(I)I" } : Jvm.MethodName) ({ cls := "CoalHoles", name := "coals", desc := "(I)I" } : Jvm.MethodName)) ∈ Uw := Uw_of 897 (by decide +kernel) (by decide +kernel)
theorem uw_898 : (Jvm.Cond.code ({ cls := "CoalHoles", name := "coals", desc := "(I)I" } : Jvm.MethodName) prog_1_method_24_code (3 : Nat) (Option.some Jvm.ClassFile.FieldType.int)) ∈ Uw := Uw_of 898 (by decide +kernel) (by decide +kernel)
theorem uw_899 : (Jvm.Cond.methodLink "CoalHoles" (242 : Nat) ({ cls := "CoalHoles$Heard", name := "narrow", desc := "(LCoalHoles$Terrace;I)V" } : Jvm.MethodName)) ∈ Uw := Uw_of 899 (by decide +kernel) (by decide +kernel)
theorem uw_900 : (Jvm.Cond.instanceMethod ({ cls := "CoalHoles$Heard", name := "narrow", desc := "(LCoalHoles$Terrace;I)V" } : Jvm.MethodName)) ∈ Uw := Uw_of 900 (by decide +kernel) (by decide +kernel)
theorem uw_901 : (Jvm.Cond.selects "CoalHoles$Heard" ({ cls := "CoalHoles$Heard", name := "narrow", desc := "(LCoalHoles$Terrace;I)V" } : Jvm.MethodName) ({ cls := "CoalHoles$Heard", name := "narrow", desc := "(LCoalHoles$Terrace;I)V" } : Jvm.MethodName)) ∈ Uw := Uw_of 901 (by decide +kernel) (by decide +kernel)
theorem uw_902 : (Jvm.Cond.code ({ cls := "CoalHoles$Heard", name := "narrow", desc := "(LCoalHoles$Terrace;I)V" } : Jvm.MethodName) prog_2_method_4_code (5 : Nat) (Option.none : Option Jvm.ClassFile.FieldType)) ∈ Uw := Uw_of 902 (by decide +kernel) (by decide +kernel)
theorem uw_903 : (Jvm.Cond.methodLink "CoalHoles$Heard" (29 : Nat) ({ cls := "CoalHoles$Terrace", name := "coldOver", desc := "(II)I" } : Jvm.MethodName)) ∈ Uw := Uw_of 903 (by decide +kernel) (by decide +kernel)
theorem uw_904 : (Jvm.Cond.methodLink "CoalHoles$Heard" (35 : Nat) ({ cls := "java/lang/Math", name := "max", desc := "(II)I" } : Jvm.MethodName)) ∈ Uw := Uw_of 904 (by decide +kernel) (by decide +kernel)
theorem uw_905 : (Jvm.Cond.methodLink "CoalHoles$Heard" (40 : Nat) ({ cls := "java/lang/Math", name := "min", desc := "(II)I" } : Jvm.MethodName)) ∈ Uw := Uw_of 905 (by decide +kernel) (by decide +kernel)
theorem uw_906 : (Jvm.Cond.methodLink "CoalHoles" (245 : Nat) ({ cls := "CoalHoles$Heard", name := "many", desc := "()I" } : Jvm.MethodName)) ∈ Uw := Uw_of 906 (by decide +kernel) (by decide +kernel)
theorem uw_907 : (Jvm.Cond.instanceMethod ({ cls := "CoalHoles$Heard", name := "many", desc := "()I" } : Jvm.MethodName)) ∈ Uw := Uw_of 907 (by decide +kernel) (by decide +kernel)
theorem uw_908 : (Jvm.Cond.selects "CoalHoles$Heard" ({ cls := "CoalHoles$Heard", name := "many", desc := "()I" } : Jvm.MethodName) ({ cls := "CoalHoles$Heard", name := "many", desc := "()I" } : Jvm.MethodName)) ∈ Uw := Uw_of 908 (by decide +kernel) (by decide +kernel)
theorem uw_909 : (Jvm.Cond.code ({ cls := "CoalHoles$Heard", name := "many", desc := "()I" } : Jvm.MethodName) prog_2_method_5_code (1 : Nat) (Option.some Jvm.ClassFile.FieldType.int)) ∈ Uw := Uw_of 909 (by decide +kernel) (by decide +kernel)
theorem uw_910 : (Jvm.Cond.methodLink "CoalHolesLaw" (121 : Nat) ({ cls := "CoalHoles", name := "ask", desc := "()I" } : Jvm.MethodName)) ∈ Uw := Uw_of 910 (by decide +kernel) (by decide +kernel)
theorem uw_911 : (Jvm.Cond.instanceMethod ({ cls := "CoalHoles", name := "ask", desc := "()I" } : Jvm.MethodName)) ∈ Uw := Uw_of 911 (by decide +kernel) (by decide +kernel)
theorem uw_912 : (Jvm.Cond.selects "CoalHoles" ({ cls := "CoalHoles", name := "ask", desc := "()I" } : Jvm.MethodName) ({ cls := "CoalHoles", name := "ask", desc := "()I" } : Jvm.MethodName)) ∈ Uw := Uw_of 912 (by decide +kernel) (by decide +kernel)
theorem uw_913 : (Jvm.Cond.code ({ cls := "CoalHoles", name := "ask", desc := "()I" } : Jvm.MethodName) prog_1_method_25_code (1 : Nat) (Option.some Jvm.ClassFile.FieldType.int)) ∈ Uw := Uw_of 913 (by decide +kernel) (by decide +kernel)
theorem uw_914 : (Jvm.Cond.methodLink "CoalHoles" (255 : Nat) ({ cls := "CoalHoles$Heard", name := "bestQuestion", desc := "(LCoalHoles$Terrace;I)I" } : Jvm.MethodName)) ∈ Uw := Uw_of 914 (by decide +kernel) (by decide +kernel)
theorem uw_915 : (Jvm.Cond.instanceMethod ({ cls := "CoalHoles$Heard", name := "bestQuestion", desc := "(LCoalHoles$Terrace;I)I" } : Jvm.MethodName)) ∈ Uw := Uw_of 915 (by decide +kernel) (by decide +kernel)
theorem uw_916 : (Jvm.Cond.selects "CoalHoles$Heard" ({ cls := "CoalHoles$Heard", name := "bestQuestion", desc := "(LCoalHoles$Terrace;I)I" } : Jvm.MethodName) ({ cls := "CoalHoles$Heard", name := "bestQuestion", desc := "(LCoalHoles$Terrace;I)I" } : Jvm.MethodName)) ∈ Uw := Uw_of 916 (by decide +kernel) (by decide +kernel)
theorem uw_917 : (Jvm.Cond.code ({ cls := "CoalHoles$Heard", name := "bestQuestion", desc := "(LCoalHoles$Terrace;I)I" } : Jvm.MethodName) prog_2_method_6_code (9 : Nat) (Option.some Jvm.ClassFile.FieldType.int)) ∈ Uw := Uw_of 917 (by decide +kernel) (by decide +kernel)
theorem uw_918 : (Jvm.Cond.methodLink "CoalHoles$Heard" (43 : Nat) ({ cls := "CoalHoles$Heard", name := "many", desc := "()I" } : Jvm.MethodName)) ∈ Uw := Uw_of 918 (by decide +kernel) (by decide +kernel)
theorem uw_919 : (Jvm.Cond.methodLink "CoalHoles$Heard" (47 : Nat) ({ cls := "CoalHoles$Terrace", name := "coldOf", desc := "(I)I" } : Jvm.MethodName)) ∈ Uw := Uw_of 919 (by decide +kernel) (by decide +kernel)
theorem uw_920 : (Jvm.Cond.methodLink "CoalHolesLaw" (125 : Nat) ({ cls := "CoalHoles", name := "colder", desc := "(II)I" } : Jvm.MethodName)) ∈ Uw := Uw_of 920 (by decide +kernel) (by decide +kernel)
theorem uw_921 : (Jvm.Cond.instanceMethod ({ cls := "CoalHoles", name := "colder", desc := "(II)I" } : Jvm.MethodName)) ∈ Uw := Uw_of 921 (by decide +kernel) (by decide +kernel)
theorem uw_922 : (Jvm.Cond.selects "CoalHoles" ({ cls := "CoalHoles", name := "colder", desc := "(II)I" } : Jvm.MethodName) ({ cls := "CoalHoles", name := "colder", desc := "(II)I" } : Jvm.MethodName)) ∈ Uw := Uw_of 922 (by decide +kernel) (by decide +kernel)
theorem uw_923 : (Jvm.Cond.code ({ cls := "CoalHoles", name := "colder", desc := "(II)I" } : Jvm.MethodName) prog_1_method_26_code (4 : Nat) (Option.some Jvm.ClassFile.FieldType.int)) ∈ Uw := Uw_of 923 (by decide +kernel) (by decide +kernel)
theorem uw_924 : (Jvm.Cond.methodLink "CoalHoles" (258 : Nat) ({ cls := "CoalHoles$Terrace", name := "coldOver", desc := "(II)I" } : Jvm.MethodName)) ∈ Uw := Uw_of 924 (by decide +kernel) (by decide +kernel)
theorem uw_925 : (Jvm.Cond.methodLink "CoalHoles" (262 : Nat) ({ cls := "CoalHoles$State", name := "lastingBits", desc := "(LCoalHoles$Terrace;I)I" } : Jvm.MethodName)) ∈ Uw := Uw_of 925 (by decide +kernel) (by decide +kernel)
theorem uw_926 : (Jvm.Cond.methodLink "CoalHoles" (265 : Nat) ({ cls := "CoalHoles$State", name := "seizedIfLasting", desc := "(LCoalHoles$Terrace;I)I" } : Jvm.MethodName)) ∈ Uw := Uw_of 926 (by decide +kernel) (by decide +kernel)
theorem uw_927 : (Jvm.Cond.methodLink "CoalHolesLaw" (138 : Nat) ({ cls := "CoalHoles", name := "winters", desc := "(III)I" } : Jvm.MethodName)) ∈ Uw := Uw_of 927 (by decide +kernel) (by decide +kernel)
theorem uw_928 : (Jvm.Cond.instanceMethod ({ cls := "CoalHoles", name := "winters", desc := "(III)I" } : Jvm.MethodName)) ∈ Uw := Uw_of 928 (by decide +kernel) (by decide +kernel)
theorem uw_929 : (Jvm.Cond.selects "CoalHoles" ({ cls := "CoalHoles", name := "winters", desc := "(III)I" } : Jvm.MethodName) ({ cls := "CoalHoles", name := "winters", desc := "(III)I" } : Jvm.MethodName)) ∈ Uw := Uw_of 929 (by decide +kernel) (by decide +kernel)
theorem uw_930 : (Jvm.Cond.code ({ cls := "CoalHoles", name := "winters", desc := "(III)I" } : Jvm.MethodName) prog_1_method_28_code (6 : Nat) (Option.some Jvm.ClassFile.FieldType.int)) ∈ Uw := Uw_of 930 (by decide +kernel) (by decide +kernel)
theorem uw_931 : (Jvm.Cond.methodLink "CoalHoles" (278 : Nat) ({ cls := "CoalHoles", name := "goByDraws", desc := "()I" } : Jvm.MethodName)) ∈ Uw := Uw_of 931 (by decide +kernel) (by decide +kernel)
theorem uw_933 : (Jvm.Cond.instanceMethod ({ cls := "CoalHoles", name := "goByDraws", desc := "()I" } : Jvm.MethodName)) ∈ Uw := Uw_of 933 (by decide +kernel) (by decide +kernel)
theorem uw_934 : (Jvm.Cond.code ({ cls := "CoalHoles", name := "goByDraws", desc := "()I" } : Jvm.MethodName) prog_1_method_35_code (4 : Nat) (Option.some Jvm.ClassFile.FieldType.int)) ∈ Uw := Uw_of 934 (by decide +kernel) (by decide +kernel)
theorem uw_935 : (Jvm.Cond.methodLink "CoalHoles" (305 : Nat) ({ cls := "CoalHoles", name := "drawBelow", desc := "(I)I" } : Jvm.MethodName)) ∈ Uw := Uw_of 935 (by decide +kernel) (by decide +kernel)
theorem uw_937 : (Jvm.Cond.instanceMethod ({ cls := "CoalHoles", name := "drawBelow", desc := "(I)I" } : Jvm.MethodName)) ∈ Uw := Uw_of 937 (by decide +kernel) (by decide +kernel)
theorem uw_938 : (Jvm.Cond.code ({ cls := "CoalHoles", name := "drawBelow", desc := "(I)I" } : Jvm.MethodName) prog_1_method_36_code (2 : Nat) (Option.some Jvm.ClassFile.FieldType.int)) ∈ Uw := Uw_of 938 (by decide +kernel) (by decide +kernel)
theorem uw_939 : (Jvm.Cond.constantLong "CoalHoles" (308 : Nat) (1103515245 : Int64)) ∈ Uw := Uw_of 939 (by decide +kernel) (by decide +kernel)
theorem uw_940 : (Jvm.Cond.constantLong "CoalHoles" (310 : Nat) (12345 : Int64)) ∈ Uw := Uw_of 940 (by decide +kernel) (by decide +kernel)
theorem uw_941 : (Jvm.Cond.constantLong "CoalHoles" (312 : Nat) (2147483648 : Int64)) ∈ Uw := Uw_of 941 (by decide +kernel) (by decide +kernel)
theorem uw_942 : (Jvm.Cond.constantLong "CoalHoles" (314 : Nat) (65536 : Int64)) ∈ Uw := Uw_of 942 (by decide +kernel) (by decide +kernel)
theorem uw_943 : (Jvm.Cond.methodLink "CoalHoles" (281 : Nat) ({ cls := "CoalHoles$State", name := "allCoal", desc := "(LCoalHoles$Terrace;)I" } : Jvm.MethodName)) ∈ Uw := Uw_of 943 (by decide +kernel) (by decide +kernel)
theorem uw_944 : (Jvm.Cond.instanceMethod ({ cls := "CoalHoles$State", name := "allCoal", desc := "(LCoalHoles$Terrace;)I" } : Jvm.MethodName)) ∈ Uw := Uw_of 944 (by decide +kernel) (by decide +kernel)
theorem uw_945 : (Jvm.Cond.selects "CoalHoles$State" ({ cls := "CoalHoles$State", name := "allCoal", desc := "(LCoalHoles$Terrace;)I" } : Jvm.MethodName) ({ cls := "CoalHoles$State", name := "allCoal", desc := "(LCoalHoles$Terrace;)I" } : Jvm.MethodName)) ∈ Uw := Uw_of 945 (by decide +kernel) (by decide +kernel)
theorem uw_946 : (Jvm.Cond.code ({ cls := "CoalHoles$State", name := "allCoal", desc := "(LCoalHoles$Terrace;)I" } : Jvm.MethodName) prog_6_method_7_code (4 : Nat) (Option.some Jvm.ClassFile.FieldType.int)) ∈ Uw := Uw_of 946 (by decide +kernel) (by decide +kernel)
theorem uw_947 : (Jvm.Cond.methodLink "CoalHolesLaw" (143 : Nat) ({ cls := "CoalHoles", name := "mark", desc := "(IZ)Z" } : Jvm.MethodName)) ∈ Uw := Uw_of 947 (by decide +kernel) (by decide +kernel)
theorem uw_948 : (Jvm.Cond.instanceMethod ({ cls := "CoalHoles", name := "mark", desc := "(IZ)Z" } : Jvm.MethodName)) ∈ Uw := Uw_of 948 (by decide +kernel) (by decide +kernel)
theorem uw_949 : (Jvm.Cond.selects "CoalHoles" ({ cls := "CoalHoles", name := "mark", desc := "(IZ)Z" } : Jvm.MethodName) ({ cls := "CoalHoles", name := "mark", desc := "(IZ)Z" } : Jvm.MethodName)) ∈ Uw := Uw_of 949 (by decide +kernel) (by decide +kernel)
theorem uw_950 : (Jvm.Cond.code ({ cls := "CoalHoles", name := "mark", desc := "(IZ)Z" } : Jvm.MethodName) prog_1_method_29_code (3 : Nat) (Option.some Jvm.ClassFile.FieldType.boolean)) ∈ Uw := Uw_of 950 (by decide +kernel) (by decide +kernel)
theorem uw_951 : (Jvm.Cond.methodLink "CoalHoles" (284 : Nat) ({ cls := "CoalHoles$Mark", name := "giveBack", desc := "(LCoalHoles$State;LCoalHoles$Winter;LCoalHoles$Heard;)V" } : Jvm.MethodName)) ∈ Uw := Uw_of 951 (by decide +kernel) (by decide +kernel)
theorem uw_952 : (Jvm.Cond.instanceMethod ({ cls := "CoalHoles$Mark", name := "giveBack", desc := "(LCoalHoles$State;LCoalHoles$Winter;LCoalHoles$Heard;)V" } : Jvm.MethodName)) ∈ Uw := Uw_of 952 (by decide +kernel) (by decide +kernel)
theorem uw_953 : (Jvm.Cond.selects "CoalHoles$Mark" ({ cls := "CoalHoles$Mark", name := "giveBack", desc := "(LCoalHoles$State;LCoalHoles$Winter;LCoalHoles$Heard;)V" } : Jvm.MethodName) ({ cls := "CoalHoles$Mark", name := "giveBack", desc := "(LCoalHoles$State;LCoalHoles$Winter;LCoalHoles$Heard;)V" } : Jvm.MethodName)) ∈ Uw := Uw_of 953 (by decide +kernel) (by decide +kernel)
theorem uw_954 : (Jvm.Cond.code ({ cls := "CoalHoles$Mark", name := "giveBack", desc := "(LCoalHoles$State;LCoalHoles$Winter;LCoalHoles$Heard;)V" } : Jvm.MethodName) prog_5_method_3_code (4 : Nat) (Option.none : Option Jvm.ClassFile.FieldType)) ∈ Uw := Uw_of 954 (by decide +kernel) (by decide +kernel)
theorem uw_955 : (Jvm.Cond.methodLink "CoalHoles$Mark" (30 : Nat) ({ cls := "CoalHoles$State", name := "copyFrom", desc := "(LCoalHoles$State;)V" } : Jvm.MethodName)) ∈ Uw := Uw_of 955 (by decide +kernel) (by decide +kernel)
theorem uw_956 : (Jvm.Cond.methodLink "CoalHoles$Mark" (34 : Nat) ({ cls := "CoalHoles$Winter", name := "copyFrom", desc := "(LCoalHoles$Winter;)V" } : Jvm.MethodName)) ∈ Uw := Uw_of 956 (by decide +kernel) (by decide +kernel)
theorem uw_957 : (Jvm.Cond.instanceMethod ({ cls := "CoalHoles$Winter", name := "copyFrom", desc := "(LCoalHoles$Winter;)V" } : Jvm.MethodName)) ∈ Uw := Uw_of 957 (by decide +kernel) (by decide +kernel)
theorem uw_958 : (Jvm.Cond.selects "CoalHoles$Winter" ({ cls := "CoalHoles$Winter", name := "copyFrom", desc := "(LCoalHoles$Winter;)V" } : Jvm.MethodName) ({ cls := "CoalHoles$Winter", name := "copyFrom", desc := "(LCoalHoles$Winter;)V" } : Jvm.MethodName)) ∈ Uw := Uw_of 958 (by decide +kernel) (by decide +kernel)
theorem uw_959 : (Jvm.Cond.code ({ cls := "CoalHoles$Winter", name := "copyFrom", desc := "(LCoalHoles$Winter;)V" } : Jvm.MethodName) prog_9_method_4_code (3 : Nat) (Option.none : Option Jvm.ClassFile.FieldType)) ∈ Uw := Uw_of 959 (by decide +kernel) (by decide +kernel)
theorem uw_960 : (Jvm.Cond.methodLink "CoalHoles$Mark" (37 : Nat) ({ cls := "CoalHoles$Heard", name := "copyFrom", desc := "(LCoalHoles$Heard;)V" } : Jvm.MethodName)) ∈ Uw := Uw_of 960 (by decide +kernel) (by decide +kernel)
theorem uw_961 : (Jvm.Cond.instanceMethod ({ cls := "CoalHoles$Heard", name := "copyFrom", desc := "(LCoalHoles$Heard;)V" } : Jvm.MethodName)) ∈ Uw := Uw_of 961 (by decide +kernel) (by decide +kernel)
theorem uw_962 : (Jvm.Cond.selects "CoalHoles$Heard" ({ cls := "CoalHoles$Heard", name := "copyFrom", desc := "(LCoalHoles$Heard;)V" } : Jvm.MethodName) ({ cls := "CoalHoles$Heard", name := "copyFrom", desc := "(LCoalHoles$Heard;)V" } : Jvm.MethodName)) ∈ Uw := Uw_of 962 (by decide +kernel) (by decide +kernel)
theorem uw_963 : (Jvm.Cond.code ({ cls := "CoalHoles$Heard", name := "copyFrom", desc := "(LCoalHoles$Heard;)V" } : Jvm.MethodName) prog_2_method_3_code (3 : Nat) (Option.none : Option Jvm.ClassFile.FieldType)) ∈ Uw := Uw_of 963 (by decide +kernel) (by decide +kernel)
theorem uw_964 : (Jvm.Cond.methodLink "CoalHoles" (288 : Nat) ({ cls := "CoalHoles$Mark", name := "keep", desc := "(LCoalHoles$State;LCoalHoles$Winter;LCoalHoles$Heard;)V" } : Jvm.MethodName)) ∈ Uw := Uw_of 964 (by decide +kernel) (by decide +kernel)
theorem uw_965 : (Jvm.Cond.instanceMethod ({ cls := "CoalHoles$Mark", name := "keep", desc := "(LCoalHoles$State;LCoalHoles$Winter;LCoalHoles$Heard;)V" } : Jvm.MethodName)) ∈ Uw := Uw_of 965 (by decide +kernel) (by decide +kernel)
theorem uw_966 : (Jvm.Cond.selects "CoalHoles$Mark" ({ cls := "CoalHoles$Mark", name := "keep", desc := "(LCoalHoles$State;LCoalHoles$Winter;LCoalHoles$Heard;)V" } : Jvm.MethodName) ({ cls := "CoalHoles$Mark", name := "keep", desc := "(LCoalHoles$State;LCoalHoles$Winter;LCoalHoles$Heard;)V" } : Jvm.MethodName)) ∈ Uw := Uw_of 966 (by decide +kernel) (by decide +kernel)
theorem uw_967 : (Jvm.Cond.code ({ cls := "CoalHoles$Mark", name := "keep", desc := "(LCoalHoles$State;LCoalHoles$Winter;LCoalHoles$Heard;)V" } : Jvm.MethodName) prog_5_method_2_code (4 : Nat) (Option.none : Option Jvm.ClassFile.FieldType)) ∈ Uw := Uw_of 967 (by decide +kernel) (by decide +kernel)
theorem uw_968 : (Jvm.Cond.methodLink "CoalHolesLaw" (147 : Nat) ({ cls := "CoalHoles", name := "count", desc := "(I)I" } : Jvm.MethodName)) ∈ Uw := Uw_of 968 (by decide +kernel) (by decide +kernel)
theorem uw_969 : (Jvm.Cond.instanceMethod ({ cls := "CoalHoles", name := "count", desc := "(I)I" } : Jvm.MethodName)) ∈ Uw := Uw_of 969 (by decide +kernel) (by decide +kernel)
theorem uw_970 : (Jvm.Cond.selects "CoalHoles" ({ cls := "CoalHoles", name := "count", desc := "(I)I" } : Jvm.MethodName) ({ cls := "CoalHoles", name := "count", desc := "(I)I" } : Jvm.MethodName)) ∈ Uw := Uw_of 970 (by decide +kernel) (by decide +kernel)
theorem uw_971 : (Jvm.Cond.code ({ cls := "CoalHoles", name := "count", desc := "(I)I" } : Jvm.MethodName) prog_1_method_30_code (2 : Nat) (Option.some Jvm.ClassFile.FieldType.int)) ∈ Uw := Uw_of 971 (by decide +kernel) (by decide +kernel)
theorem uw_972 : (Jvm.Cond.methodLink "CoalHoles" (294 : Nat) ({ cls := "CoalHoles$Terrace", name := "coldOf", desc := "(I)I" } : Jvm.MethodName)) ∈ Uw := Uw_of 972 (by decide +kernel) (by decide +kernel)
theorem uw_973 : (Jvm.Cond.methodLink "CoalHolesLaw" (129 : Nat) ({ cls := "CoalHolesLaw", name := "rests", desc := "(LCoalHoles;IIII[J)I" } : Jvm.MethodName)) ∈ Uw := Uw_of 973 (by decide +kernel) (by decide +kernel)
theorem uw_974 : (Jvm.Cond.static ({ cls := "CoalHolesLaw", name := "rests", desc := "(LCoalHoles;IIII[J)I" } : Jvm.MethodName)) ∈ Uw := Uw_of 974 (by decide +kernel) (by decide +kernel)
theorem uw_977 : (Jvm.Cond.methodLink "CoalHolesLaw" (7 : Nat) ({ cls := "CoalHoles", name := "rests", desc := "(IIII)I" } : Jvm.MethodName)) ∈ Uw := Uw_of 977 (by decide +kernel) (by decide +kernel)
theorem uw_978 : (Jvm.Cond.instanceMethod ({ cls := "CoalHoles", name := "rests", desc := "(IIII)I" } : Jvm.MethodName)) ∈ Uw := Uw_of 978 (by decide +kernel) (by decide +kernel)
theorem uw_979 : (Jvm.Cond.selects "CoalHoles" ({ cls := "CoalHoles", name := "rests", desc := "(IIII)I" } : Jvm.MethodName) ({ cls := "CoalHoles", name := "rests", desc := "(IIII)I" } : Jvm.MethodName)) ∈ Uw := Uw_of 979 (by decide +kernel) (by decide +kernel)
theorem uw_980 : (Jvm.Cond.code ({ cls := "CoalHoles", name := "rests", desc := "(IIII)I" } : Jvm.MethodName) prog_1_method_27_code (9 : Nat) (Option.some Jvm.ClassFile.FieldType.int)) ∈ Uw := Uw_of 980 (by decide +kernel) (by decide +kernel)
theorem uw_990 : (Jvm.Cond.selects "java/util/NoSuchElementException" ({ cls := "java/lang/Throwable", name := "fillInStackTrace", desc := "(I)Ljava/lang/Throwable;" } : Jvm.MethodName) ({ cls := "java/lang/Throwable", name := "fillInStackTrace", desc := "(I)Ljava/lang/Throwable;" } : Jvm.MethodName)) ∈ Uw := Uw_of 990 (by decide +kernel) (by decide +kernel)
theorem uw_991 : (Jvm.Cond.selects "java/util/NoSuchElementException" ({ cls := "java/lang/Throwable", name := "fillInStackTrace", desc := "()Ljava/lang/Throwable;" } : Jvm.MethodName) ({ cls := "java/lang/Throwable", name := "fillInStackTrace", desc := "()Ljava/lang/Throwable;" } : Jvm.MethodName)) ∈ Uw := Uw_of 991 (by decide +kernel) (by decide +kernel)
theorem uw_1004 : (Jvm.Cond.instanceMethod ({ cls := "java/lang/Throwable", name := "<init>", desc := "()V" } : Jvm.MethodName)) ∈ Uw := Uw_of 1004 (by decide +kernel) (by decide +kernel)
theorem uw_1005 : (Jvm.Cond.code ({ cls := "java/lang/Throwable", name := "<init>", desc := "()V" } : Jvm.MethodName) prog_22_method_1_code (1 : Nat) (Option.none : Option Jvm.ClassFile.FieldType)) ∈ Uw := Uw_of 1005 (by decide +kernel) (by decide +kernel)
theorem uw_1006 : (Jvm.Cond.methodLink "java/lang/Throwable" (1 : Nat) ({ cls := "java/lang/Object", name := "<init>", desc := "()V" } : Jvm.MethodName)) ∈ Uw := Uw_of 1006 (by decide +kernel) (by decide +kernel)
theorem uw_1007 : (Jvm.Cond.fieldLink "java/lang/Throwable" (13 : Nat) "java/lang/Throwable" "UNASSIGNED_STACK" "[Ljava/lang/StackTraceElement;") ∈ Uw := Uw_of 1007 (by decide +kernel) (by decide +kernel)
theorem uw_1009 : (Jvm.Cond.fieldLink "java/lang/Throwable" (20 : Nat) "java/lang/Throwable" "SUPPRESSED_SENTINEL" "Ljava/util/List;") ∈ Uw := Uw_of 1009 (by decide +kernel) (by decide +kernel)
theorem uw_1011 : (Jvm.Cond.methodLink "java/lang/Throwable" (27 : Nat) ({ cls := "java/lang/Throwable", name := "fillInStackTrace", desc := "()Ljava/lang/Throwable;" } : Jvm.MethodName)) ∈ Uw := Uw_of 1011 (by decide +kernel) (by decide +kernel)
theorem uw_1012 : (Jvm.Cond.instanceMethod ({ cls := "java/lang/Throwable", name := "fillInStackTrace", desc := "()Ljava/lang/Throwable;" } : Jvm.MethodName)) ∈ Uw := Uw_of 1012 (by decide +kernel) (by decide +kernel)
theorem uw_1015 : (Jvm.Cond.methodLink "java/lang/Throwable" (202 : Nat) ({ cls := "java/lang/Throwable", name := "fillInStackTrace", desc := "(I)Ljava/lang/Throwable;" } : Jvm.MethodName)) ∈ Uw := Uw_of 1015 (by decide +kernel) (by decide +kernel)
theorem uw_1017 : (Jvm.Cond.instanceMethod ({ cls := "java/lang/Throwable", name := "fillInStackTrace", desc := "(I)Ljava/lang/Throwable;" } : Jvm.MethodName)) ∈ Uw := Uw_of 1017 (by decide +kernel) (by decide +kernel)
theorem uw_1020 : (Jvm.Cond.methodLink "CoalHoles" (270 : Nat) ({ cls := "java/util/NoSuchElementException", name := "<init>", desc := "()V" } : Jvm.MethodName)) ∈ Uw := Uw_of 1020 (by decide +kernel) (by decide +kernel)
theorem uw_1021 : (Jvm.Cond.instanceMethod ({ cls := "java/util/NoSuchElementException", name := "<init>", desc := "()V" } : Jvm.MethodName)) ∈ Uw := Uw_of 1021 (by decide +kernel) (by decide +kernel)
theorem uw_1022 : (Jvm.Cond.code ({ cls := "java/util/NoSuchElementException", name := "<init>", desc := "()V" } : Jvm.MethodName) prog_25_method_1_code (1 : Nat) (Option.none : Option Jvm.ClassFile.FieldType)) ∈ Uw := Uw_of 1022 (by decide +kernel) (by decide +kernel)
theorem uw_1023 : (Jvm.Cond.methodLink "java/util/NoSuchElementException" (1 : Nat) ({ cls := "java/lang/RuntimeException", name := "<init>", desc := "()V" } : Jvm.MethodName)) ∈ Uw := Uw_of 1023 (by decide +kernel) (by decide +kernel)
theorem uw_1024 : (Jvm.Cond.instanceMethod ({ cls := "java/lang/RuntimeException", name := "<init>", desc := "()V" } : Jvm.MethodName)) ∈ Uw := Uw_of 1024 (by decide +kernel) (by decide +kernel)
theorem uw_1025 : (Jvm.Cond.code ({ cls := "java/lang/RuntimeException", name := "<init>", desc := "()V" } : Jvm.MethodName) prog_18_method_1_code (1 : Nat) (Option.none : Option Jvm.ClassFile.FieldType)) ∈ Uw := Uw_of 1025 (by decide +kernel) (by decide +kernel)
theorem uw_1026 : (Jvm.Cond.methodLink "java/lang/RuntimeException" (1 : Nat) ({ cls := "java/lang/Exception", name := "<init>", desc := "()V" } : Jvm.MethodName)) ∈ Uw := Uw_of 1026 (by decide +kernel) (by decide +kernel)
theorem uw_1027 : (Jvm.Cond.instanceMethod ({ cls := "java/lang/Exception", name := "<init>", desc := "()V" } : Jvm.MethodName)) ∈ Uw := Uw_of 1027 (by decide +kernel) (by decide +kernel)
theorem uw_1028 : (Jvm.Cond.code ({ cls := "java/lang/Exception", name := "<init>", desc := "()V" } : Jvm.MethodName) prog_15_method_1_code (1 : Nat) (Option.none : Option Jvm.ClassFile.FieldType)) ∈ Uw := Uw_of 1028 (by decide +kernel) (by decide +kernel)
theorem uw_1029 : (Jvm.Cond.methodLink "java/lang/Exception" (1 : Nat) ({ cls := "java/lang/Throwable", name := "<init>", desc := "()V" } : Jvm.MethodName)) ∈ Uw := Uw_of 1029 (by decide +kernel) (by decide +kernel)
theorem uw_1030 : (Jvm.Cond.fieldLink "java/lang/Throwable" (198 : Nat) "java/lang/Throwable" "backtrace" "Ljava/lang/Object;") ∈ Uw := Uw_of 1030 (by decide +kernel) (by decide +kernel)
theorem uw_1031 : (Jvm.Cond.fieldLink "java/lang/Throwable" (7 : Nat) "java/lang/Throwable" "cause" "Ljava/lang/Throwable;") ∈ Uw := Uw_of 1031 (by decide +kernel) (by decide +kernel)
theorem uw_1032 : (Jvm.Cond.fieldLink "java/lang/Throwable" (17 : Nat) "java/lang/Throwable" "stackTrace" "[Ljava/lang/StackTraceElement;") ∈ Uw := Uw_of 1032 (by decide +kernel) (by decide +kernel)
theorem uw_1033 : (Jvm.Cond.fieldLink "java/lang/Throwable" (24 : Nat) "java/lang/Throwable" "suppressedExceptions" "Ljava/util/List;") ∈ Uw := Uw_of 1033 (by decide +kernel) (by decide +kernel)
theorem uw_1042 : (Jvm.Cond.methodLink "CoalHoles" (271 : Nat) ({ cls := "CoalHoles", name := "isContent", desc := "(II)Z" } : Jvm.MethodName)) ∈ Uw := Uw_of 1042 (by decide +kernel) (by decide +kernel)
theorem uw_1043 : (Jvm.Cond.static ({ cls := "CoalHoles", name := "isContent", desc := "(II)Z" } : Jvm.MethodName)) ∈ Uw := Uw_of 1043 (by decide +kernel) (by decide +kernel)
theorem uw_1044 : (Jvm.Cond.code ({ cls := "CoalHoles", name := "isContent", desc := "(II)Z" } : Jvm.MethodName) prog_1_method_33_code (2 : Nat) (Option.some Jvm.ClassFile.FieldType.boolean)) ∈ Uw := Uw_of 1044 (by decide +kernel) (by decide +kernel)
theorem uw_1047 : (Jvm.Cond.methodLink "CoalHolesLaw" (18 : Nat) ({ cls := "CoalHolesModel", name := "<init>", desc := "()V" } : Jvm.MethodName)) ∈ Uw := Uw_of 1047 (by decide +kernel) (by decide +kernel)
theorem uw_1048 : (Jvm.Cond.instanceMethod ({ cls := "CoalHolesModel", name := "<init>", desc := "()V" } : Jvm.MethodName)) ∈ Uw := Uw_of 1048 (by decide +kernel) (by decide +kernel)
theorem uw_1049 : (Jvm.Cond.code ({ cls := "CoalHolesModel", name := "<init>", desc := "()V" } : Jvm.MethodName) prog_11_method_1_code (1 : Nat) (Option.none : Option Jvm.ClassFile.FieldType)) ∈ Uw := Uw_of 1049 (by decide +kernel) (by decide +kernel)
theorem uw_1050 : (Jvm.Cond.methodLink "CoalHolesModel" (1 : Nat) ({ cls := "java/lang/Object", name := "<init>", desc := "()V" } : Jvm.MethodName)) ∈ Uw := Uw_of 1050 (by decide +kernel) (by decide +kernel)
theorem uw_1051 : (Jvm.Cond.methodLink "CoalHolesModel" (138 : Nat) ({ cls := "CoalHolesModel", name := "usual", desc := "(I)V" } : Jvm.MethodName)) ∈ Uw := Uw_of 1051 (by decide +kernel) (by decide +kernel)
theorem uw_1053 : (Jvm.Cond.instanceMethod ({ cls := "CoalHolesModel", name := "usual", desc := "(I)V" } : Jvm.MethodName)) ∈ Uw := Uw_of 1053 (by decide +kernel) (by decide +kernel)
theorem uw_1054 : (Jvm.Cond.code ({ cls := "CoalHolesModel", name := "usual", desc := "(I)V" } : Jvm.MethodName) prog_11_method_11_code (3 : Nat) (Option.none : Option Jvm.ClassFile.FieldType)) ∈ Uw := Uw_of 1054 (by decide +kernel) (by decide +kernel)
theorem uw_1055 : (Jvm.Cond.fieldLink "CoalHolesModel" (142 : Nat) "CoalHolesModel" "thrown" "I") ∈ Uw := Uw_of 1055 (by decide +kernel) (by decide +kernel)
theorem uw_1056 : (Jvm.Cond.fieldLink "CoalHolesModel" (148 : Nat) "CoalHolesModel" "taped" "I") ∈ Uw := Uw_of 1056 (by decide +kernel) (by decide +kernel)
theorem uw_1057 : (Jvm.Cond.fieldLink "CoalHolesModel" (7 : Nat) "CoalHolesModel" "tape" "[I") ∈ Uw := Uw_of 1057 (by decide +kernel) (by decide +kernel)
theorem uw_1058 : (Jvm.Cond.fieldLink "CoalHolesModel" (151 : Nat) "CoalHolesModel" "size" "I") ∈ Uw := Uw_of 1058 (by decide +kernel) (by decide +kernel)
theorem uw_1059 : (Jvm.Cond.fieldLink "CoalHolesModel" (154 : Nat) "CoalHolesModel" "place" "I") ∈ Uw := Uw_of 1059 (by decide +kernel) (by decide +kernel)
theorem uw_1060 : (Jvm.Cond.fieldLink "CoalHolesModel" (157 : Nat) "CoalHolesModel" "begin" "I") ∈ Uw := Uw_of 1060 (by decide +kernel) (by decide +kernel)
theorem uw_1061 : (Jvm.Cond.fieldLink "CoalHolesModel" (167 : Nat) "CoalHolesModel" "token" "I") ∈ Uw := Uw_of 1061 (by decide +kernel) (by decide +kernel)
theorem uw_1062 : (Jvm.Cond.fieldLink "CoalHolesModel" (160 : Nat) "CoalHolesModel" "word" "J") ∈ Uw := Uw_of 1062 (by decide +kernel) (by decide +kernel)
theorem uw_1063 : (Jvm.Cond.fieldLink "CoalHolesModel" (164 : Nat) "CoalHolesModel" "told" "I") ∈ Uw := Uw_of 1063 (by decide +kernel) (by decide +kernel)
theorem uw_1064 : (Jvm.Cond.fieldLink "CoalHolesModel" (178 : Nat) "CoalHolesModel" "wrong" "I") ∈ Uw := Uw_of 1064 (by decide +kernel) (by decide +kernel)
theorem uw_1065 : (Jvm.Cond.fieldLink "CoalHolesModel" (13 : Nat) "CoalHolesModel" "terrace" "[I") ∈ Uw := Uw_of 1065 (by decide +kernel) (by decide +kernel)
theorem uw_1066 : (Jvm.Cond.fieldLink "CoalHolesModel" (16 : Nat) "CoalHolesModel" "holeName" "[J") ∈ Uw := Uw_of 1066 (by decide +kernel) (by decide +kernel)
theorem uw_1067 : (Jvm.Cond.fieldLink "CoalHolesModel" (20 : Nat) "CoalHolesModel" "guestName" "[J") ∈ Uw := Uw_of 1067 (by decide +kernel) (by decide +kernel)
theorem uw_1068 : (Jvm.Cond.fieldLink "CoalHolesModel" (23 : Nat) "CoalHolesModel" "holeFlag" "[I") ∈ Uw := Uw_of 1068 (by decide +kernel) (by decide +kernel)
theorem uw_1069 : (Jvm.Cond.fieldLink "CoalHolesModel" (26 : Nat) "CoalHolesModel" "coalTold" "[I") ∈ Uw := Uw_of 1069 (by decide +kernel) (by decide +kernel)
theorem uw_1070 : (Jvm.Cond.fieldLink "CoalHolesModel" (29 : Nat) "CoalHolesModel" "burns" "[I") ∈ Uw := Uw_of 1070 (by decide +kernel) (by decide +kernel)
theorem uw_1071 : (Jvm.Cond.fieldLink "CoalHolesModel" (32 : Nat) "CoalHolesModel" "walls" "[I") ∈ Uw := Uw_of 1071 (by decide +kernel) (by decide +kernel)
theorem uw_1072 : (Jvm.Cond.fieldLink "CoalHolesModel" (35 : Nat) "CoalHolesModel" "kind" "[I") ∈ Uw := Uw_of 1072 (by decide +kernel) (by decide +kernel)
theorem uw_1073 : (Jvm.Cond.fieldLink "CoalHolesModel" (38 : Nat) "CoalHolesModel" "guestFlag" "[I") ∈ Uw := Uw_of 1073 (by decide +kernel) (by decide +kernel)
theorem uw_1074 : (Jvm.Cond.fieldLink "CoalHolesModel" (41 : Nat) "CoalHolesModel" "wars" "[I") ∈ Uw := Uw_of 1074 (by decide +kernel) (by decide +kernel)
theorem uw_1075 : (Jvm.Cond.fieldLink "CoalHolesModel" (44 : Nat) "CoalHolesModel" "cold" "[I") ∈ Uw := Uw_of 1075 (by decide +kernel) (by decide +kernel)
theorem uw_1076 : (Jvm.Cond.fieldLink "CoalHolesModel" (47 : Nat) "CoalHolesModel" "lineFrom" "[I") ∈ Uw := Uw_of 1076 (by decide +kernel) (by decide +kernel)
theorem uw_1077 : (Jvm.Cond.fieldLink "CoalHolesModel" (50 : Nat) "CoalHolesModel" "lineTo" "[I") ∈ Uw := Uw_of 1077 (by decide +kernel) (by decide +kernel)
theorem uw_1078 : (Jvm.Cond.fieldLink "CoalHolesModel" (53 : Nat) "CoalHolesModel" "codes" "[I") ∈ Uw := Uw_of 1078 (by decide +kernel) (by decide +kernel)
theorem uw_1079 : (Jvm.Cond.fieldLink "CoalHolesModel" (181 : Nat) "CoalHolesModel" "code" "I") ∈ Uw := Uw_of 1079 (by decide +kernel) (by decide +kernel)
theorem uw_1080 : (Jvm.Cond.fieldLink "CoalHolesModel" (303 : Nat) "CoalHolesModel" "isSack" "Z") ∈ Uw := Uw_of 1080 (by decide +kernel) (by decide +kernel)
theorem uw_1081 : (Jvm.Cond.fieldLink "CoalHolesModel" (56 : Nat) "CoalHolesModel" "opened" "[I") ∈ Uw := Uw_of 1081 (by decide +kernel) (by decide +kernel)
theorem uw_1082 : (Jvm.Cond.fieldLink "CoalHolesModel" (59 : Nat) "CoalHolesModel" "compared" "[Z") ∈ Uw := Uw_of 1082 (by decide +kernel) (by decide +kernel)
theorem uw_1083 : (Jvm.Cond.fieldLink "CoalHolesModel" (63 : Nat) "CoalHolesModel" "kept" "[I") ∈ Uw := Uw_of 1083 (by decide +kernel) (by decide +kernel)
theorem uw_1084 : (Jvm.Cond.fieldLink "CoalHolesModel" (66 : Nat) "CoalHolesModel" "keptBy" "[I") ∈ Uw := Uw_of 1084 (by decide +kernel) (by decide +kernel)
theorem uw_1085 : (Jvm.Cond.fieldLink "CoalHolesModel" (69 : Nat) "CoalHolesModel" "ahead" "[I") ∈ Uw := Uw_of 1085 (by decide +kernel) (by decide +kernel)
theorem uw_1086 : (Jvm.Cond.fieldLink "CoalHolesModel" (72 : Nat) "CoalHolesModel" "against" "[I") ∈ Uw := Uw_of 1086 (by decide +kernel) (by decide +kernel)
theorem uw_1087 : (Jvm.Cond.fieldLink "CoalHolesModel" (75 : Nat) "CoalHolesModel" "sum" "[I") ∈ Uw := Uw_of 1087 (by decide +kernel) (by decide +kernel)
theorem uw_1088 : (Jvm.Cond.fieldLink "CoalHolesModel" (78 : Nat) "CoalHolesModel" "sumBy" "[I") ∈ Uw := Uw_of 1088 (by decide +kernel) (by decide +kernel)
theorem uw_1089 : (Jvm.Cond.fieldLink "CoalHolesModel" (81 : Nat) "CoalHolesModel" "term" "[I") ∈ Uw := Uw_of 1089 (by decide +kernel) (by decide +kernel)
theorem uw_1090 : (Jvm.Cond.fieldLink "CoalHolesModel" (84 : Nat) "CoalHolesModel" "termBy" "[I") ∈ Uw := Uw_of 1090 (by decide +kernel) (by decide +kernel)
theorem uw_1091 : (Jvm.Cond.fieldLink "CoalHolesModel" (87 : Nat) "CoalHolesModel" "byNot" "[I") ∈ Uw := Uw_of 1091 (by decide +kernel) (by decide +kernel)
theorem uw_1092 : (Jvm.Cond.fieldLink "CoalHolesModel" (90 : Nat) "CoalHolesModel" "valueOf" "[I") ∈ Uw := Uw_of 1092 (by decide +kernel) (by decide +kernel)
theorem uw_1093 : (Jvm.Cond.fieldLink "CoalHolesModel" (270 : Nat) "CoalHolesModel" "given" "I") ∈ Uw := Uw_of 1093 (by decide +kernel) (by decide +kernel)
theorem uw_1094 : (Jvm.Cond.fieldLink "CoalHolesModel" (287 : Nat) "CoalHolesModel" "fresh" "J") ∈ Uw := Uw_of 1094 (by decide +kernel) (by decide +kernel)
theorem uw_1095 : (Jvm.Cond.fieldLink "CoalHolesModel" (93 : Nat) "CoalHolesModel" "lines" "[I") ∈ Uw := Uw_of 1095 (by decide +kernel) (by decide +kernel)
theorem uw_1096 : (Jvm.Cond.fieldLink "CoalHolesModel" (96 : Nat) "CoalHolesModel" "lineWhat" "[I") ∈ Uw := Uw_of 1096 (by decide +kernel) (by decide +kernel)
theorem uw_1097 : (Jvm.Cond.fieldLink "CoalHolesModel" (99 : Nat) "CoalHolesModel" "lineA" "[I") ∈ Uw := Uw_of 1097 (by decide +kernel) (by decide +kernel)
theorem uw_1098 : (Jvm.Cond.fieldLink "CoalHolesModel" (102 : Nat) "CoalHolesModel" "lineB" "[I") ∈ Uw := Uw_of 1098 (by decide +kernel) (by decide +kernel)
theorem uw_1099 : (Jvm.Cond.fieldLink "CoalHolesModel" (105 : Nat) "CoalHolesModel" "heards" "[I") ∈ Uw := Uw_of 1099 (by decide +kernel) (by decide +kernel)
theorem uw_1100 : (Jvm.Cond.fieldLink "CoalHolesModel" (108 : Nat) "CoalHolesModel" "heardDays" "[I") ∈ Uw := Uw_of 1100 (by decide +kernel) (by decide +kernel)
theorem uw_1101 : (Jvm.Cond.fieldLink "CoalHolesModel" (111 : Nat) "CoalHolesModel" "heardSome" "[Z") ∈ Uw := Uw_of 1101 (by decide +kernel) (by decide +kernel)
theorem uw_1102 : (Jvm.Cond.fieldLink "CoalHolesModel" (114 : Nat) "CoalHolesModel" "s" "[I") ∈ Uw := Uw_of 1102 (by decide +kernel) (by decide +kernel)
theorem uw_1103 : (Jvm.Cond.fieldLink "CoalHolesModel" (117 : Nat) "CoalHolesModel" "aside" "[I") ∈ Uw := Uw_of 1103 (by decide +kernel) (by decide +kernel)
theorem uw_1104 : (Jvm.Cond.fieldLink "CoalHolesModel" (120 : Nat) "CoalHolesModel" "before" "[I") ∈ Uw := Uw_of 1104 (by decide +kernel) (by decide +kernel)
theorem uw_1105 : (Jvm.Cond.fieldLink "CoalHolesModel" (123 : Nat) "CoalHolesModel" "marked" "[I") ∈ Uw := Uw_of 1105 (by decide +kernel) (by decide +kernel)
theorem uw_1106 : (Jvm.Cond.fieldLink "CoalHolesModel" (126 : Nat) "CoalHolesModel" "undone" "[I") ∈ Uw := Uw_of 1106 (by decide +kernel) (by decide +kernel)
theorem uw_1107 : (Jvm.Cond.fieldLink "CoalHolesModel" (129 : Nat) "CoalHolesModel" "isLaid" "[Z") ∈ Uw := Uw_of 1107 (by decide +kernel) (by decide +kernel)
theorem uw_1108 : (Jvm.Cond.fieldLink "CoalHolesModel" (354 : Nat) "CoalHolesModel" "done" "I") ∈ Uw := Uw_of 1108 (by decide +kernel) (by decide +kernel)
theorem uw_1109 : (Jvm.Cond.fieldLink "CoalHolesModel" (397 : Nat) "CoalHolesModel" "colder" "I") ∈ Uw := Uw_of 1109 (by decide +kernel) (by decide +kernel)
theorem uw_1110 : (Jvm.Cond.fieldLink "CoalHolesModel" (434 : Nat) "CoalHolesModel" "firstSeized" "I") ∈ Uw := Uw_of 1110 (by decide +kernel) (by decide +kernel)
theorem uw_1111 : (Jvm.Cond.fieldLink "CoalHolesModel" (132 : Nat) "CoalHolesModel" "row" "[I") ∈ Uw := Uw_of 1111 (by decide +kernel) (by decide +kernel)
theorem uw_1112 : (Jvm.Cond.fieldLink "CoalHolesModel" (135 : Nat) "CoalHolesModel" "bestRow" "[I") ∈ Uw := Uw_of 1112 (by decide +kernel) (by decide +kernel)
theorem uw_1113 : (Jvm.Cond.fieldLink "CoalHolesModel" (446 : Nat) "CoalHolesModel" "fewest" "I") ∈ Uw := Uw_of 1113 (by decide +kernel) (by decide +kernel)
theorem uw_1114 : (Jvm.Cond.fieldLink "CoalHolesModel" (456 : Nat) "CoalHolesModel" "fewestSeized" "I") ∈ Uw := Uw_of 1114 (by decide +kernel) (by decide +kernel)
theorem uw_1115 : (Jvm.Cond.fieldLink "CoalHolesModel" (459 : Nat) "CoalHolesModel" "mostInside" "I") ∈ Uw := Uw_of 1115 (by decide +kernel) (by decide +kernel)
theorem uw_1116 : (Jvm.Cond.fieldLink "CoalHolesModel" (478 : Nat) "CoalHolesModel" "g" "J") ∈ Uw := Uw_of 1116 (by decide +kernel) (by decide +kernel)
theorem uw_1242 : (Jvm.Cond.methodLink "CoalHolesLaw" (135 : Nat) ({ cls := "CoalHolesModel", name := "thrown", desc := "()I" } : Jvm.MethodName)) ∈ Uw := Uw_of 1242 (by decide +kernel) (by decide +kernel)
theorem uw_1243 : (Jvm.Cond.instanceMethod ({ cls := "CoalHolesModel", name := "thrown", desc := "()I" } : Jvm.MethodName)) ∈ Uw := Uw_of 1243 (by decide +kernel) (by decide +kernel)
theorem uw_1244 : (Jvm.Cond.selects "CoalHolesModel" ({ cls := "CoalHolesModel", name := "thrown", desc := "()I" } : Jvm.MethodName) ({ cls := "CoalHolesModel", name := "thrown", desc := "()I" } : Jvm.MethodName)) ∈ Uw := Uw_of 1244 (by decide +kernel) (by decide +kernel)
theorem uw_1245 : (Jvm.Cond.code ({ cls := "CoalHolesModel", name := "thrown", desc := "()I" } : Jvm.MethodName) prog_11_method_2_code (1 : Nat) (Option.some Jvm.ClassFile.FieldType.int)) ∈ Uw := Uw_of 1245 (by decide +kernel) (by decide +kernel)
theorem uw_1246 : (Jvm.Cond.methodLink "CoalHolesLaw" (25 : Nat) ({ cls := "CoalHolesModel", name := "feed", desc := "(JJJ)I" } : Jvm.MethodName)) ∈ Uw := Uw_of 1246 (by decide +kernel) (by decide +kernel)
theorem uw_1247 : (Jvm.Cond.instanceMethod ({ cls := "CoalHolesModel", name := "feed", desc := "(JJJ)I" } : Jvm.MethodName)) ∈ Uw := Uw_of 1247 (by decide +kernel) (by decide +kernel)
theorem uw_1248 : (Jvm.Cond.selects "CoalHolesModel" ({ cls := "CoalHolesModel", name := "feed", desc := "(JJJ)I" } : Jvm.MethodName) ({ cls := "CoalHolesModel", name := "feed", desc := "(JJJ)I" } : Jvm.MethodName)) ∈ Uw := Uw_of 1248 (by decide +kernel) (by decide +kernel)
theorem uw_1249 : (Jvm.Cond.code ({ cls := "CoalHolesModel", name := "feed", desc := "(JJJ)I" } : Jvm.MethodName) prog_11_method_5_code (11 : Nat) (Option.some Jvm.ClassFile.FieldType.int)) ∈ Uw := Uw_of 1249 (by decide +kernel) (by decide +kernel)
theorem uw_1250 : (Jvm.Cond.constantLong "CoalHolesModel" (146 : Nat) (255 : Int64)) ∈ Uw := Uw_of 1250 (by decide +kernel) (by decide +kernel)
theorem uw_1251 : (Jvm.Cond.methodLink "CoalHolesLaw" (30 : Nat) ({ cls := "CoalHolesModel", name := "terrace", desc := "()I" } : Jvm.MethodName)) ∈ Uw := Uw_of 1251 (by decide +kernel) (by decide +kernel)
theorem uw_1252 : (Jvm.Cond.instanceMethod ({ cls := "CoalHolesModel", name := "terrace", desc := "()I" } : Jvm.MethodName)) ∈ Uw := Uw_of 1252 (by decide +kernel) (by decide +kernel)
theorem uw_1253 : (Jvm.Cond.selects "CoalHolesModel" ({ cls := "CoalHolesModel", name := "terrace", desc := "()I" } : Jvm.MethodName) ({ cls := "CoalHolesModel", name := "terrace", desc := "()I" } : Jvm.MethodName)) ∈ Uw := Uw_of 1253 (by decide +kernel) (by decide +kernel)
theorem uw_1254 : (Jvm.Cond.code ({ cls := "CoalHolesModel", name := "terrace", desc := "()I" } : Jvm.MethodName) prog_11_method_45_code (2 : Nat) (Option.some Jvm.ClassFile.FieldType.int)) ∈ Uw := Uw_of 1254 (by decide +kernel) (by decide +kernel)
theorem uw_1255 : (Jvm.Cond.methodLink "CoalHolesModel" (345 : Nat) ({ cls := "CoalHolesModel", name := "readsAll", desc := "()Z" } : Jvm.MethodName)) ∈ Uw := Uw_of 1255 (by decide +kernel) (by decide +kernel)
theorem uw_1257 : (Jvm.Cond.instanceMethod ({ cls := "CoalHolesModel", name := "readsAll", desc := "()Z" } : Jvm.MethodName)) ∈ Uw := Uw_of 1257 (by decide +kernel) (by decide +kernel)
theorem uw_1258 : (Jvm.Cond.code ({ cls := "CoalHolesModel", name := "readsAll", desc := "()Z" } : Jvm.MethodName) prog_11_method_36_code (2 : Nat) (Option.some Jvm.ClassFile.FieldType.boolean)) ∈ Uw := Uw_of 1258 (by decide +kernel) (by decide +kernel)
theorem uw_1259 : (Jvm.Cond.methodLink "CoalHolesModel" (310 : Nat) ({ cls := "CoalHolesModel", name := "begins", desc := "()V" } : Jvm.MethodName)) ∈ Uw := Uw_of 1259 (by decide +kernel) (by decide +kernel)
theorem uw_1261 : (Jvm.Cond.instanceMethod ({ cls := "CoalHolesModel", name := "begins", desc := "()V" } : Jvm.MethodName)) ∈ Uw := Uw_of 1261 (by decide +kernel) (by decide +kernel)
theorem uw_1262 : (Jvm.Cond.code ({ cls := "CoalHolesModel", name := "begins", desc := "()V" } : Jvm.MethodName) prog_11_method_35_code (1 : Nat) (Option.none : Option Jvm.ClassFile.FieldType)) ∈ Uw := Uw_of 1262 (by decide +kernel) (by decide +kernel)
theorem uw_1263 : (Jvm.Cond.methodLink "CoalHolesModel" (212 : Nat) ({ cls := "CoalHolesModel", name := "nextToken", desc := "()V" } : Jvm.MethodName)) ∈ Uw := Uw_of 1263 (by decide +kernel) (by decide +kernel)
theorem uw_1265 : (Jvm.Cond.instanceMethod ({ cls := "CoalHolesModel", name := "nextToken", desc := "()V" } : Jvm.MethodName)) ∈ Uw := Uw_of 1265 (by decide +kernel) (by decide +kernel)
theorem uw_1266 : (Jvm.Cond.code ({ cls := "CoalHolesModel", name := "nextToken", desc := "()V" } : Jvm.MethodName) prog_11_method_7_code (2 : Nat) (Option.none : Option Jvm.ClassFile.FieldType)) ∈ Uw := Uw_of 1266 (by decide +kernel) (by decide +kernel)
theorem uw_1267 : (Jvm.Cond.methodLink "CoalHolesModel" (170 : Nat) ({ cls := "CoalHolesModel", name := "signAt", desc := "(I)I" } : Jvm.MethodName)) ∈ Uw := Uw_of 1267 (by decide +kernel) (by decide +kernel)
theorem uw_1269 : (Jvm.Cond.instanceMethod ({ cls := "CoalHolesModel", name := "signAt", desc := "(I)I" } : Jvm.MethodName)) ∈ Uw := Uw_of 1269 (by decide +kernel) (by decide +kernel)
theorem uw_1270 : (Jvm.Cond.code ({ cls := "CoalHolesModel", name := "signAt", desc := "(I)I" } : Jvm.MethodName) prog_11_method_6_code (2 : Nat) (Option.some Jvm.ClassFile.FieldType.int)) ∈ Uw := Uw_of 1270 (by decide +kernel) (by decide +kernel)
theorem uw_1271 : (Jvm.Cond.constantLong "CoalHolesModel" (174 : Nat) (27 : Int64)) ∈ Uw := Uw_of 1271 (by decide +kernel) (by decide +kernel)
theorem uw_1272 : (Jvm.Cond.constantLong "CoalHolesModel" (176 : Nat) (96 : Int64)) ∈ Uw := Uw_of 1272 (by decide +kernel) (by decide +kernel)
theorem uw_1273 : (Jvm.Cond.constantLong "CoalHolesModel" (228 : Nat) (168728 : Int64)) ∈ Uw := Uw_of 1273 (by decide +kernel) (by decide +kernel)
theorem uw_1274 : (Jvm.Cond.methodLink "CoalHolesModel" (198 : Nat) ({ cls := "CoalHolesModel", name := "isWord", desc := "(J)Z" } : Jvm.MethodName)) ∈ Uw := Uw_of 1274 (by decide +kernel) (by decide +kernel)
theorem uw_1276 : (Jvm.Cond.instanceMethod ({ cls := "CoalHolesModel", name := "isWord", desc := "(J)Z" } : Jvm.MethodName)) ∈ Uw := Uw_of 1276 (by decide +kernel) (by decide +kernel)
theorem uw_1277 : (Jvm.Cond.code ({ cls := "CoalHolesModel", name := "isWord", desc := "(J)Z" } : Jvm.MethodName) prog_11_method_8_code (3 : Nat) (Option.some Jvm.ClassFile.FieldType.boolean)) ∈ Uw := Uw_of 1277 (by decide +kernel) (by decide +kernel)
theorem uw_1278 : (Jvm.Cond.methodLink "CoalHolesModel" (313 : Nat) ({ cls := "CoalHolesModel", name := "readsHole", desc := "()Z" } : Jvm.MethodName)) ∈ Uw := Uw_of 1278 (by decide +kernel) (by decide +kernel)
theorem uw_1280 : (Jvm.Cond.instanceMethod ({ cls := "CoalHolesModel", name := "readsHole", desc := "()Z" } : Jvm.MethodName)) ∈ Uw := Uw_of 1280 (by decide +kernel) (by decide +kernel)
theorem uw_1281 : (Jvm.Cond.code ({ cls := "CoalHolesModel", name := "readsHole", desc := "()Z" } : Jvm.MethodName) prog_11_method_28_code (2 : Nat) (Option.some Jvm.ClassFile.FieldType.boolean)) ∈ Uw := Uw_of 1281 (by decide +kernel) (by decide +kernel)
theorem uw_1282 : (Jvm.Cond.methodLink "CoalHolesModel" (206 : Nat) ({ cls := "CoalHolesModel", name := "fails", desc := "(I)Z" } : Jvm.MethodName)) ∈ Uw := Uw_of 1282 (by decide +kernel) (by decide +kernel)
theorem uw_1284 : (Jvm.Cond.instanceMethod ({ cls := "CoalHolesModel", name := "fails", desc := "(I)Z" } : Jvm.MethodName)) ∈ Uw := Uw_of 1284 (by decide +kernel) (by decide +kernel)
theorem uw_1285 : (Jvm.Cond.code ({ cls := "CoalHolesModel", name := "fails", desc := "(I)Z" } : Jvm.MethodName) prog_11_method_10_code (2 : Nat) (Option.some Jvm.ClassFile.FieldType.boolean)) ∈ Uw := Uw_of 1285 (by decide +kernel) (by decide +kernel)
theorem uw_1286 : (Jvm.Cond.methodLink "CoalHolesModel" (290 : Nat) ({ cls := "CoalHolesModel", name := "needsNew", desc := "()Z" } : Jvm.MethodName)) ∈ Uw := Uw_of 1286 (by decide +kernel) (by decide +kernel)
theorem uw_1288 : (Jvm.Cond.instanceMethod ({ cls := "CoalHolesModel", name := "needsNew", desc := "()Z" } : Jvm.MethodName)) ∈ Uw := Uw_of 1288 (by decide +kernel) (by decide +kernel)
theorem uw_1289 : (Jvm.Cond.code ({ cls := "CoalHolesModel", name := "needsNew", desc := "()Z" } : Jvm.MethodName) prog_11_method_25_code (1 : Nat) (Option.some Jvm.ClassFile.FieldType.boolean)) ∈ Uw := Uw_of 1289 (by decide +kernel) (by decide +kernel)
theorem uw_1290 : (Jvm.Cond.methodLink "CoalHolesModel" (277 : Nat) ({ cls := "CoalHolesModel", name := "isKept", desc := "()Z" } : Jvm.MethodName)) ∈ Uw := Uw_of 1290 (by decide +kernel) (by decide +kernel)
theorem uw_1292 : (Jvm.Cond.instanceMethod ({ cls := "CoalHolesModel", name := "isKept", desc := "()Z" } : Jvm.MethodName)) ∈ Uw := Uw_of 1292 (by decide +kernel) (by decide +kernel)
theorem uw_1293 : (Jvm.Cond.code ({ cls := "CoalHolesModel", name := "isKept", desc := "()Z" } : Jvm.MethodName) prog_11_method_19_code (1 : Nat) (Option.some Jvm.ClassFile.FieldType.boolean)) ∈ Uw := Uw_of 1293 (by decide +kernel) (by decide +kernel)
theorem uw_1294 : (Jvm.Cond.constantLong "CoalHolesModel" (230 : Nat) (126880 : Int64)) ∈ Uw := Uw_of 1294 (by decide +kernel) (by decide +kernel)
theorem uw_1295 : (Jvm.Cond.constantLong "CoalHolesModel" (232 : Nat) (70023 : Int64)) ∈ Uw := Uw_of 1295 (by decide +kernel) (by decide +kernel)
theorem uw_1296 : (Jvm.Cond.constantLong "CoalHolesModel" (234 : Nat) (1489744 : Int64)) ∈ Uw := Uw_of 1296 (by decide +kernel) (by decide +kernel)
theorem uw_1297 : (Jvm.Cond.constantLong "CoalHolesModel" (236 : Nat) (453774 : Int64)) ∈ Uw := Uw_of 1297 (by decide +kernel) (by decide +kernel)
theorem uw_1298 : (Jvm.Cond.constantLong "CoalHolesModel" (238 : Nat) (4137608 : Int64)) ∈ Uw := Uw_of 1298 (by decide +kernel) (by decide +kernel)
theorem uw_1299 : (Jvm.Cond.constantLong "CoalHolesModel" (240 : Nat) (16812 : Int64)) ∈ Uw := Uw_of 1299 (by decide +kernel) (by decide +kernel)
theorem uw_1300 : (Jvm.Cond.constantLong "CoalHolesModel" (242 : Nat) (70312 : Int64)) ∈ Uw := Uw_of 1300 (by decide +kernel) (by decide +kernel)
theorem uw_1301 : (Jvm.Cond.constantLong "CoalHolesModel" (244 : Nat) (374798 : Int64)) ∈ Uw := Uw_of 1301 (by decide +kernel) (by decide +kernel)
theorem uw_1302 : (Jvm.Cond.constantLong "CoalHolesModel" (246 : Nat) (10656676 : Int64)) ∈ Uw := Uw_of 1302 (by decide +kernel) (by decide +kernel)
theorem uw_1303 : (Jvm.Cond.constantLong "CoalHolesModel" (248 : Nat) (90302 : Int64)) ∈ Uw := Uw_of 1303 (by decide +kernel) (by decide +kernel)
theorem uw_1304 : (Jvm.Cond.constantLong "CoalHolesModel" (250 : Nat) (583 : Int64)) ∈ Uw := Uw_of 1304 (by decide +kernel) (by decide +kernel)
theorem uw_1305 : (Jvm.Cond.constantLong "CoalHolesModel" (252 : Nat) (7873077725 : Int64)) ∈ Uw := Uw_of 1305 (by decide +kernel) (by decide +kernel)
theorem uw_1306 : (Jvm.Cond.constantLong "CoalHolesModel" (254 : Nat) (1424122 : Int64)) ∈ Uw := Uw_of 1306 (by decide +kernel) (by decide +kernel)
theorem uw_1307 : (Jvm.Cond.constantLong "CoalHolesModel" (256 : Nat) (2968 : Int64)) ∈ Uw := Uw_of 1307 (by decide +kernel) (by decide +kernel)
theorem uw_1308 : (Jvm.Cond.constantLong "CoalHolesModel" (258 : Nat) (8740238 : Int64)) ∈ Uw := Uw_of 1308 (by decide +kernel) (by decide +kernel)
theorem uw_1309 : (Jvm.Cond.constantLong "CoalHolesModel" (260 : Nat) (330846583 : Int64)) ∈ Uw := Uw_of 1309 (by decide +kernel) (by decide +kernel)
theorem uw_1310 : (Jvm.Cond.constantLong "CoalHolesModel" (262 : Nat) (2949235 : Int64)) ∈ Uw := Uw_of 1310 (by decide +kernel) (by decide +kernel)
theorem uw_1311 : (Jvm.Cond.constantLong "CoalHolesModel" (264 : Nat) (2234 : Int64)) ∈ Uw := Uw_of 1311 (by decide +kernel) (by decide +kernel)
theorem uw_1312 : (Jvm.Cond.constantLong "CoalHolesModel" (196 : Nat) (10631 : Int64)) ∈ Uw := Uw_of 1312 (by decide +kernel) (by decide +kernel)
theorem uw_1313 : (Jvm.Cond.constantLong "CoalHolesModel" (215 : Nat) (1111 : Int64)) ∈ Uw := Uw_of 1313 (by decide +kernel) (by decide +kernel)
theorem uw_1314 : (Jvm.Cond.constantLong "CoalHolesModel" (217 : Nat) (423 : Int64)) ∈ Uw := Uw_of 1314 (by decide +kernel) (by decide +kernel)
theorem uw_1315 : (Jvm.Cond.methodLink "CoalHolesModel" (281 : Nat) ({ cls := "CoalHolesModel", name := "holeNamed", desc := "(I)I" } : Jvm.MethodName)) ∈ Uw := Uw_of 1315 (by decide +kernel) (by decide +kernel)
theorem uw_1317 : (Jvm.Cond.instanceMethod ({ cls := "CoalHolesModel", name := "holeNamed", desc := "(I)I" } : Jvm.MethodName)) ∈ Uw := Uw_of 1317 (by decide +kernel) (by decide +kernel)
theorem uw_1318 : (Jvm.Cond.code ({ cls := "CoalHolesModel", name := "holeNamed", desc := "(I)I" } : Jvm.MethodName) prog_11_method_20_code (3 : Nat) (Option.some Jvm.ClassFile.FieldType.int)) ∈ Uw := Uw_of 1318 (by decide +kernel) (by decide +kernel)
theorem uw_1319 : (Jvm.Cond.methodLink "CoalHolesModel" (284 : Nat) ({ cls := "CoalHolesModel", name := "guestNamed", desc := "(I)I" } : Jvm.MethodName)) ∈ Uw := Uw_of 1319 (by decide +kernel) (by decide +kernel)
theorem uw_1321 : (Jvm.Cond.instanceMethod ({ cls := "CoalHolesModel", name := "guestNamed", desc := "(I)I" } : Jvm.MethodName)) ∈ Uw := Uw_of 1321 (by decide +kernel) (by decide +kernel)
theorem uw_1322 : (Jvm.Cond.code ({ cls := "CoalHolesModel", name := "guestNamed", desc := "(I)I" } : Jvm.MethodName) prog_11_method_21_code (3 : Nat) (Option.some Jvm.ClassFile.FieldType.int)) ∈ Uw := Uw_of 1322 (by decide +kernel) (by decide +kernel)
theorem uw_1323 : (Jvm.Cond.methodLink "CoalHolesModel" (293 : Nat) ({ cls := "CoalHolesModel", name := "needsBoth", desc := "(JII)Z" } : Jvm.MethodName)) ∈ Uw := Uw_of 1323 (by decide +kernel) (by decide +kernel)
theorem uw_1325 : (Jvm.Cond.instanceMethod ({ cls := "CoalHolesModel", name := "needsBoth", desc := "(JII)Z" } : Jvm.MethodName)) ∈ Uw := Uw_of 1325 (by decide +kernel) (by decide +kernel)
theorem uw_1326 : (Jvm.Cond.code ({ cls := "CoalHolesModel", name := "needsBoth", desc := "(JII)Z" } : Jvm.MethodName) prog_11_method_23_code (5 : Nat) (Option.some Jvm.ClassFile.FieldType.boolean)) ∈ Uw := Uw_of 1326 (by decide +kernel) (by decide +kernel)
theorem uw_1327 : (Jvm.Cond.methodLink "CoalHolesModel" (273 : Nat) ({ cls := "CoalHolesModel", name := "needsNumber", desc := "(II)Z" } : Jvm.MethodName)) ∈ Uw := Uw_of 1327 (by decide +kernel) (by decide +kernel)
theorem uw_1329 : (Jvm.Cond.instanceMethod ({ cls := "CoalHolesModel", name := "needsNumber", desc := "(II)Z" } : Jvm.MethodName)) ∈ Uw := Uw_of 1329 (by decide +kernel) (by decide +kernel)
theorem uw_1330 : (Jvm.Cond.code ({ cls := "CoalHolesModel", name := "needsNumber", desc := "(II)Z" } : Jvm.MethodName) prog_11_method_22_code (3 : Nat) (Option.some Jvm.ClassFile.FieldType.boolean)) ∈ Uw := Uw_of 1330 (by decide +kernel) (by decide +kernel)
theorem uw_1331 : (Jvm.Cond.methodLink "CoalHolesModel" (266 : Nat) ({ cls := "CoalHolesModel", name := "within", desc := "(III)Z" } : Jvm.MethodName)) ∈ Uw := Uw_of 1331 (by decide +kernel) (by decide +kernel)
theorem uw_1332 : (Jvm.Cond.static ({ cls := "CoalHolesModel", name := "within", desc := "(III)Z" } : Jvm.MethodName)) ∈ Uw := Uw_of 1332 (by decide +kernel) (by decide +kernel)
theorem uw_1333 : (Jvm.Cond.code ({ cls := "CoalHolesModel", name := "within", desc := "(III)Z" } : Jvm.MethodName) prog_11_method_3_code (3 : Nat) (Option.some Jvm.ClassFile.FieldType.boolean)) ∈ Uw := Uw_of 1333 (by decide +kernel) (by decide +kernel)
theorem uw_1334 : (Jvm.Cond.methodLink "CoalHolesModel" (297 : Nat) ({ cls := "CoalHolesModel", name := "closes", desc := "()Z" } : Jvm.MethodName)) ∈ Uw := Uw_of 1334 (by decide +kernel) (by decide +kernel)
theorem uw_1336 : (Jvm.Cond.instanceMethod ({ cls := "CoalHolesModel", name := "closes", desc := "()Z" } : Jvm.MethodName)) ∈ Uw := Uw_of 1336 (by decide +kernel) (by decide +kernel)
theorem uw_1337 : (Jvm.Cond.code ({ cls := "CoalHolesModel", name := "closes", desc := "()Z" } : Jvm.MethodName) prog_11_method_24_code (1 : Nat) (Option.some Jvm.ClassFile.FieldType.boolean)) ∈ Uw := Uw_of 1337 (by decide +kernel) (by decide +kernel)
theorem uw_1338 : (Jvm.Cond.methodLink "CoalHolesModel" (202 : Nat) ({ cls := "CoalHolesModel", name := "isSign", desc := "(I)Z" } : Jvm.MethodName)) ∈ Uw := Uw_of 1338 (by decide +kernel) (by decide +kernel)
theorem uw_1340 : (Jvm.Cond.instanceMethod ({ cls := "CoalHolesModel", name := "isSign", desc := "(I)Z" } : Jvm.MethodName)) ∈ Uw := Uw_of 1340 (by decide +kernel) (by decide +kernel)
theorem uw_1341 : (Jvm.Cond.code ({ cls := "CoalHolesModel", name := "isSign", desc := "(I)Z" } : Jvm.MethodName) prog_11_method_9_code (2 : Nat) (Option.some Jvm.ClassFile.FieldType.boolean)) ∈ Uw := Uw_of 1341 (by decide +kernel) (by decide +kernel)
theorem uw_1342 : (Jvm.Cond.methodLink "CoalHolesModel" (316 : Nat) ({ cls := "CoalHolesModel", name := "readsWall", desc := "()Z" } : Jvm.MethodName)) ∈ Uw := Uw_of 1342 (by decide +kernel) (by decide +kernel)
theorem uw_1344 : (Jvm.Cond.instanceMethod ({ cls := "CoalHolesModel", name := "readsWall", desc := "()Z" } : Jvm.MethodName)) ∈ Uw := Uw_of 1344 (by decide +kernel) (by decide +kernel)
theorem uw_1345 : (Jvm.Cond.code ({ cls := "CoalHolesModel", name := "readsWall", desc := "()Z" } : Jvm.MethodName) prog_11_method_29_code (2 : Nat) (Option.some Jvm.ClassFile.FieldType.boolean)) ∈ Uw := Uw_of 1345 (by decide +kernel) (by decide +kernel)
theorem uw_1346 : (Jvm.Cond.methodLink "CoalHolesModel" (300 : Nat) ({ cls := "CoalHolesModel", name := "needsHole", desc := "(I)Z" } : Jvm.MethodName)) ∈ Uw := Uw_of 1346 (by decide +kernel) (by decide +kernel)
theorem uw_1348 : (Jvm.Cond.instanceMethod ({ cls := "CoalHolesModel", name := "needsHole", desc := "(I)Z" } : Jvm.MethodName)) ∈ Uw := Uw_of 1348 (by decide +kernel) (by decide +kernel)
theorem uw_1349 : (Jvm.Cond.code ({ cls := "CoalHolesModel", name := "needsHole", desc := "(I)Z" } : Jvm.MethodName) prog_11_method_26_code (2 : Nat) (Option.some Jvm.ClassFile.FieldType.boolean)) ∈ Uw := Uw_of 1349 (by decide +kernel) (by decide +kernel)
theorem uw_1350 : (Jvm.Cond.methodLink "CoalHolesModel" (319 : Nat) ({ cls := "CoalHolesModel", name := "readsGuest", desc := "()Z" } : Jvm.MethodName)) ∈ Uw := Uw_of 1350 (by decide +kernel) (by decide +kernel)
theorem uw_1352 : (Jvm.Cond.instanceMethod ({ cls := "CoalHolesModel", name := "readsGuest", desc := "()Z" } : Jvm.MethodName)) ∈ Uw := Uw_of 1352 (by decide +kernel) (by decide +kernel)
theorem uw_1353 : (Jvm.Cond.code ({ cls := "CoalHolesModel", name := "readsGuest", desc := "()Z" } : Jvm.MethodName) prog_11_method_30_code (2 : Nat) (Option.some Jvm.ClassFile.FieldType.boolean)) ∈ Uw := Uw_of 1353 (by decide +kernel) (by decide +kernel)
theorem uw_1354 : (Jvm.Cond.methodLink "CoalHolesModel" (322 : Nat) ({ cls := "CoalHolesModel", name := "readsWar", desc := "()Z" } : Jvm.MethodName)) ∈ Uw := Uw_of 1354 (by decide +kernel) (by decide +kernel)
theorem uw_1356 : (Jvm.Cond.instanceMethod ({ cls := "CoalHolesModel", name := "readsWar", desc := "()Z" } : Jvm.MethodName)) ∈ Uw := Uw_of 1356 (by decide +kernel) (by decide +kernel)
theorem uw_1357 : (Jvm.Cond.code ({ cls := "CoalHolesModel", name := "readsWar", desc := "()Z" } : Jvm.MethodName) prog_11_method_31_code (2 : Nat) (Option.some Jvm.ClassFile.FieldType.boolean)) ∈ Uw := Uw_of 1357 (by decide +kernel) (by decide +kernel)
theorem uw_1358 : (Jvm.Cond.methodLink "CoalHolesModel" (325 : Nat) ({ cls := "CoalHolesModel", name := "readsCold", desc := "()Z" } : Jvm.MethodName)) ∈ Uw := Uw_of 1358 (by decide +kernel) (by decide +kernel)
theorem uw_1360 : (Jvm.Cond.instanceMethod ({ cls := "CoalHolesModel", name := "readsCold", desc := "()Z" } : Jvm.MethodName)) ∈ Uw := Uw_of 1360 (by decide +kernel) (by decide +kernel)
theorem uw_1361 : (Jvm.Cond.code ({ cls := "CoalHolesModel", name := "readsCold", desc := "()Z" } : Jvm.MethodName) prog_11_method_32_code (1 : Nat) (Option.some Jvm.ClassFile.FieldType.boolean)) ∈ Uw := Uw_of 1361 (by decide +kernel) (by decide +kernel)
theorem uw_1362 : (Jvm.Cond.methodLink "CoalHolesModel" (328 : Nat) ({ cls := "CoalHolesModel", name := "readsSack", desc := "()Z" } : Jvm.MethodName)) ∈ Uw := Uw_of 1362 (by decide +kernel) (by decide +kernel)
theorem uw_1364 : (Jvm.Cond.instanceMethod ({ cls := "CoalHolesModel", name := "readsSack", desc := "()Z" } : Jvm.MethodName)) ∈ Uw := Uw_of 1364 (by decide +kernel) (by decide +kernel)
theorem uw_1365 : (Jvm.Cond.code ({ cls := "CoalHolesModel", name := "readsSack", desc := "()Z" } : Jvm.MethodName) prog_11_method_33_code (1 : Nat) (Option.some Jvm.ClassFile.FieldType.boolean)) ∈ Uw := Uw_of 1365 (by decide +kernel) (by decide +kernel)
theorem uw_1366 : (Jvm.Cond.methodLink "CoalHolesModel" (331 : Nat) ({ cls := "CoalHolesModel", name := "readsTakes", desc := "()Z" } : Jvm.MethodName)) ∈ Uw := Uw_of 1366 (by decide +kernel) (by decide +kernel)
theorem uw_1368 : (Jvm.Cond.instanceMethod ({ cls := "CoalHolesModel", name := "readsTakes", desc := "()Z" } : Jvm.MethodName)) ∈ Uw := Uw_of 1368 (by decide +kernel) (by decide +kernel)
theorem uw_1369 : (Jvm.Cond.code ({ cls := "CoalHolesModel", name := "readsTakes", desc := "()Z" } : Jvm.MethodName) prog_11_method_34_code (1 : Nat) (Option.some Jvm.ClassFile.FieldType.boolean)) ∈ Uw := Uw_of 1369 (by decide +kernel) (by decide +kernel)
theorem uw_1370 : (Jvm.Cond.methodLink "CoalHolesModel" (307 : Nat) ({ cls := "CoalHolesModel", name := "reads", desc := "()Z" } : Jvm.MethodName)) ∈ Uw := Uw_of 1370 (by decide +kernel) (by decide +kernel)
theorem uw_1372 : (Jvm.Cond.instanceMethod ({ cls := "CoalHolesModel", name := "reads", desc := "()Z" } : Jvm.MethodName)) ∈ Uw := Uw_of 1372 (by decide +kernel) (by decide +kernel)
theorem uw_1373 : (Jvm.Cond.code ({ cls := "CoalHolesModel", name := "reads", desc := "()Z" } : Jvm.MethodName) prog_11_method_14_code (6 : Nat) (Option.some Jvm.ClassFile.FieldType.boolean)) ∈ Uw := Uw_of 1373 (by decide +kernel) (by decide +kernel)
theorem uw_1374 : (Jvm.Cond.methodLink "CoalHolesModel" (192 : Nat) ({ cls := "CoalHolesModel", name := "fact", desc := "()I" } : Jvm.MethodName)) ∈ Uw := Uw_of 1374 (by decide +kernel) (by decide +kernel)
theorem uw_1376 : (Jvm.Cond.instanceMethod ({ cls := "CoalHolesModel", name := "fact", desc := "()I" } : Jvm.MethodName)) ∈ Uw := Uw_of 1376 (by decide +kernel) (by decide +kernel)
theorem uw_1377 : (Jvm.Cond.code ({ cls := "CoalHolesModel", name := "fact", desc := "()I" } : Jvm.MethodName) prog_11_method_13_code (1 : Nat) (Option.some Jvm.ClassFile.FieldType.int)) ∈ Uw := Uw_of 1377 (by decide +kernel) (by decide +kernel)
theorem uw_1378 : (Jvm.Cond.constantLong "CoalHolesModel" (184 : Nat) (240023 : Int64)) ∈ Uw := Uw_of 1378 (by decide +kernel) (by decide +kernel)
theorem uw_1379 : (Jvm.Cond.constantLong "CoalHolesModel" (186 : Nat) (136960988 : Int64)) ∈ Uw := Uw_of 1379 (by decide +kernel) (by decide +kernel)
theorem uw_1380 : (Jvm.Cond.constantLong "CoalHolesModel" (188 : Nat) (375062 : Int64)) ∈ Uw := Uw_of 1380 (by decide +kernel) (by decide +kernel)
theorem uw_1381 : (Jvm.Cond.constantLong "CoalHolesModel" (190 : Nat) (80006 : Int64)) ∈ Uw := Uw_of 1381 (by decide +kernel) (by decide +kernel)
theorem uw_1382 : (Jvm.Cond.methodLink "CoalHolesModel" (209 : Nat) ({ cls := "CoalHolesModel", name := "puts", desc := "(I)V" } : Jvm.MethodName)) ∈ Uw := Uw_of 1382 (by decide +kernel) (by decide +kernel)
theorem uw_1384 : (Jvm.Cond.instanceMethod ({ cls := "CoalHolesModel", name := "puts", desc := "(I)V" } : Jvm.MethodName)) ∈ Uw := Uw_of 1384 (by decide +kernel) (by decide +kernel)
theorem uw_1385 : (Jvm.Cond.code ({ cls := "CoalHolesModel", name := "puts", desc := "(I)V" } : Jvm.MethodName) prog_11_method_12_code (2 : Nat) (Option.none : Option Jvm.ClassFile.FieldType)) ∈ Uw := Uw_of 1385 (by decide +kernel) (by decide +kernel)
theorem uw_1386 : (Jvm.Cond.methodLink "CoalHolesModel" (348 : Nat) ({ cls := "CoalHolesModel", name := "lays", desc := "()V" } : Jvm.MethodName)) ∈ Uw := Uw_of 1386 (by decide +kernel) (by decide +kernel)
theorem uw_1388 : (Jvm.Cond.instanceMethod ({ cls := "CoalHolesModel", name := "lays", desc := "()V" } : Jvm.MethodName)) ∈ Uw := Uw_of 1388 (by decide +kernel) (by decide +kernel)
theorem uw_1389 : (Jvm.Cond.code ({ cls := "CoalHolesModel", name := "lays", desc := "()V" } : Jvm.MethodName) prog_11_method_39_code (1 : Nat) (Option.none : Option Jvm.ClassFile.FieldType)) ∈ Uw := Uw_of 1389 (by decide +kernel) (by decide +kernel)
theorem uw_1390 : (Jvm.Cond.methodLink "CoalHolesModel" (334 : Nat) ({ cls := "CoalHolesModel", name := "shifts", desc := "([II)V" } : Jvm.MethodName)) ∈ Uw := Uw_of 1390 (by decide +kernel) (by decide +kernel)
theorem uw_1391 : (Jvm.Cond.static ({ cls := "CoalHolesModel", name := "shifts", desc := "([II)V" } : Jvm.MethodName)) ∈ Uw := Uw_of 1391 (by decide +kernel) (by decide +kernel)
theorem uw_1392 : (Jvm.Cond.code ({ cls := "CoalHolesModel", name := "shifts", desc := "([II)V" } : Jvm.MethodName) prog_11_method_37_code (3 : Nat) (Option.none : Option Jvm.ClassFile.FieldType)) ∈ Uw := Uw_of 1392 (by decide +kernel) (by decide +kernel)
theorem uw_1393 : (Jvm.Cond.methodLink "CoalHolesModel" (338 : Nat) ({ cls := "CoalHolesModel", name := "shiftsNames", desc := "([J)V" } : Jvm.MethodName)) ∈ Uw := Uw_of 1393 (by decide +kernel) (by decide +kernel)
theorem uw_1394 : (Jvm.Cond.static ({ cls := "CoalHolesModel", name := "shiftsNames", desc := "([J)V" } : Jvm.MethodName)) ∈ Uw := Uw_of 1394 (by decide +kernel) (by decide +kernel)
theorem uw_1395 : (Jvm.Cond.code ({ cls := "CoalHolesModel", name := "shiftsNames", desc := "([J)V" } : Jvm.MethodName) prog_11_method_38_code (2 : Nat) (Option.none : Option Jvm.ClassFile.FieldType)) ∈ Uw := Uw_of 1395 (by decide +kernel) (by decide +kernel)
theorem uw_1396 : (Jvm.Cond.methodLink "CoalHolesModel" (351 : Nat) ({ cls := "CoalHolesModel", name := "fresh0", desc := "()V" } : Jvm.MethodName)) ∈ Uw := Uw_of 1396 (by decide +kernel) (by decide +kernel)
theorem uw_1398 : (Jvm.Cond.instanceMethod ({ cls := "CoalHolesModel", name := "fresh0", desc := "()V" } : Jvm.MethodName)) ∈ Uw := Uw_of 1398 (by decide +kernel) (by decide +kernel)
theorem uw_1399 : (Jvm.Cond.code ({ cls := "CoalHolesModel", name := "fresh0", desc := "()V" } : Jvm.MethodName) prog_11_method_44_code (2 : Nat) (Option.none : Option Jvm.ClassFile.FieldType)) ∈ Uw := Uw_of 1399 (by decide +kernel) (by decide +kernel)
theorem uw_1400 : (Jvm.Cond.methodLink "CoalHolesLaw" (34 : Nat) ({ cls := "CoalHolesModel", name := "winter", desc := "()I" } : Jvm.MethodName)) ∈ Uw := Uw_of 1400 (by decide +kernel) (by decide +kernel)
theorem uw_1401 : (Jvm.Cond.instanceMethod ({ cls := "CoalHolesModel", name := "winter", desc := "()I" } : Jvm.MethodName)) ∈ Uw := Uw_of 1401 (by decide +kernel) (by decide +kernel)
theorem uw_1402 : (Jvm.Cond.selects "CoalHolesModel" ({ cls := "CoalHolesModel", name := "winter", desc := "()I" } : Jvm.MethodName) ({ cls := "CoalHolesModel", name := "winter", desc := "()I" } : Jvm.MethodName)) ∈ Uw := Uw_of 1402 (by decide +kernel) (by decide +kernel)
theorem uw_1403 : (Jvm.Cond.code ({ cls := "CoalHolesModel", name := "winter", desc := "()I" } : Jvm.MethodName) prog_11_method_46_code (1 : Nat) (Option.some Jvm.ClassFile.FieldType.int)) ∈ Uw := Uw_of 1403 (by decide +kernel) (by decide +kernel)
theorem uw_1404 : (Jvm.Cond.methodLink "CoalHolesModel" (357 : Nat) ({ cls := "CoalHolesModel", name := "readsLine", desc := "()Z" } : Jvm.MethodName)) ∈ Uw := Uw_of 1404 (by decide +kernel) (by decide +kernel)
theorem uw_1406 : (Jvm.Cond.instanceMethod ({ cls := "CoalHolesModel", name := "readsLine", desc := "()Z" } : Jvm.MethodName)) ∈ Uw := Uw_of 1406 (by decide +kernel) (by decide +kernel)
theorem uw_1407 : (Jvm.Cond.code ({ cls := "CoalHolesModel", name := "readsLine", desc := "()Z" } : Jvm.MethodName) prog_11_method_41_code (3 : Nat) (Option.some Jvm.ClassFile.FieldType.boolean)) ∈ Uw := Uw_of 1407 (by decide +kernel) (by decide +kernel)
theorem uw_1408 : (Jvm.Cond.methodLink "CoalHolesModel" (342 : Nat) ({ cls := "CoalHolesModel", name := "needsGuest", desc := "()Z" } : Jvm.MethodName)) ∈ Uw := Uw_of 1408 (by decide +kernel) (by decide +kernel)
theorem uw_1410 : (Jvm.Cond.instanceMethod ({ cls := "CoalHolesModel", name := "needsGuest", desc := "()Z" } : Jvm.MethodName)) ∈ Uw := Uw_of 1410 (by decide +kernel) (by decide +kernel)
theorem uw_1411 : (Jvm.Cond.code ({ cls := "CoalHolesModel", name := "needsGuest", desc := "()Z" } : Jvm.MethodName) prog_11_method_27_code (1 : Nat) (Option.some Jvm.ClassFile.FieldType.boolean)) ∈ Uw := Uw_of 1411 (by decide +kernel) (by decide +kernel)
theorem uw_1412 : (Jvm.Cond.methodLink "CoalHolesModel" (360 : Nat) ({ cls := "CoalHolesModel", name := "laysLines", desc := "(II)V" } : Jvm.MethodName)) ∈ Uw := Uw_of 1412 (by decide +kernel) (by decide +kernel)
theorem uw_1414 : (Jvm.Cond.instanceMethod ({ cls := "CoalHolesModel", name := "laysLines", desc := "(II)V" } : Jvm.MethodName)) ∈ Uw := Uw_of 1414 (by decide +kernel) (by decide +kernel)
theorem uw_1415 : (Jvm.Cond.code ({ cls := "CoalHolesModel", name := "laysLines", desc := "(II)V" } : Jvm.MethodName) prog_11_method_42_code (4 : Nat) (Option.none : Option Jvm.ClassFile.FieldType)) ∈ Uw := Uw_of 1415 (by decide +kernel) (by decide +kernel)
theorem uw_1416 : (Jvm.Cond.methodLink "CoalHolesLaw" (39 : Nat) ({ cls := "CoalHolesModel", name := "hole", desc := "(II)I" } : Jvm.MethodName)) ∈ Uw := Uw_of 1416 (by decide +kernel) (by decide +kernel)
theorem uw_1417 : (Jvm.Cond.instanceMethod ({ cls := "CoalHolesModel", name := "hole", desc := "(II)I" } : Jvm.MethodName)) ∈ Uw := Uw_of 1417 (by decide +kernel) (by decide +kernel)
theorem uw_1418 : (Jvm.Cond.selects "CoalHolesModel" ({ cls := "CoalHolesModel", name := "hole", desc := "(II)I" } : Jvm.MethodName) ({ cls := "CoalHolesModel", name := "hole", desc := "(II)I" } : Jvm.MethodName)) ∈ Uw := Uw_of 1418 (by decide +kernel) (by decide +kernel)
theorem uw_1419 : (Jvm.Cond.code ({ cls := "CoalHolesModel", name := "hole", desc := "(II)I" } : Jvm.MethodName) prog_11_method_61_code (6 : Nat) (Option.some Jvm.ClassFile.FieldType.int)) ∈ Uw := Uw_of 1419 (by decide +kernel) (by decide +kernel)
theorem uw_1420 : (Jvm.Cond.methodLink "CoalHolesModel" (403 : Nat) ({ cls := "CoalHolesModel", name := "isHole", desc := "(I)Z" } : Jvm.MethodName)) ∈ Uw := Uw_of 1420 (by decide +kernel) (by decide +kernel)
theorem uw_1422 : (Jvm.Cond.instanceMethod ({ cls := "CoalHolesModel", name := "isHole", desc := "(I)Z" } : Jvm.MethodName)) ∈ Uw := Uw_of 1422 (by decide +kernel) (by decide +kernel)
theorem uw_1423 : (Jvm.Cond.code ({ cls := "CoalHolesModel", name := "isHole", desc := "(I)Z" } : Jvm.MethodName) prog_11_method_47_code (2 : Nat) (Option.some Jvm.ClassFile.FieldType.boolean)) ∈ Uw := Uw_of 1423 (by decide +kernel) (by decide +kernel)
theorem uw_1424 : (Jvm.Cond.methodLink "CoalHolesModel" (373 : Nat) ({ cls := "CoalHolesModel", name := "insideOf", desc := "(I)I" } : Jvm.MethodName)) ∈ Uw := Uw_of 1424 (by decide +kernel) (by decide +kernel)
theorem uw_1426 : (Jvm.Cond.instanceMethod ({ cls := "CoalHolesModel", name := "insideOf", desc := "(I)I" } : Jvm.MethodName)) ∈ Uw := Uw_of 1426 (by decide +kernel) (by decide +kernel)
theorem uw_1427 : (Jvm.Cond.code ({ cls := "CoalHolesModel", name := "insideOf", desc := "(I)I" } : Jvm.MethodName) prog_11_method_52_code (4 : Nat) (Option.some Jvm.ClassFile.FieldType.int)) ∈ Uw := Uw_of 1427 (by decide +kernel) (by decide +kernel)
theorem uw_1428 : (Jvm.Cond.methodLink "CoalHolesModel" (386 : Nat) ({ cls := "CoalHolesModel", name := "isTakenBy", desc := "(II)Z" } : Jvm.MethodName)) ∈ Uw := Uw_of 1428 (by decide +kernel) (by decide +kernel)
theorem uw_1430 : (Jvm.Cond.instanceMethod ({ cls := "CoalHolesModel", name := "isTakenBy", desc := "(II)Z" } : Jvm.MethodName)) ∈ Uw := Uw_of 1430 (by decide +kernel) (by decide +kernel)
theorem uw_1431 : (Jvm.Cond.code ({ cls := "CoalHolesModel", name := "isTakenBy", desc := "(II)Z" } : Jvm.MethodName) prog_11_method_55_code (5 : Nat) (Option.some Jvm.ClassFile.FieldType.boolean)) ∈ Uw := Uw_of 1431 (by decide +kernel) (by decide +kernel)
theorem uw_1432 : (Jvm.Cond.methodLink "CoalHolesModel" (376 : Nat) ({ cls := "CoalHolesModel", name := "foesIn", desc := "(II)I" } : Jvm.MethodName)) ∈ Uw := Uw_of 1432 (by decide +kernel) (by decide +kernel)
theorem uw_1434 : (Jvm.Cond.instanceMethod ({ cls := "CoalHolesModel", name := "foesIn", desc := "(II)I" } : Jvm.MethodName)) ∈ Uw := Uw_of 1434 (by decide +kernel) (by decide +kernel)
theorem uw_1435 : (Jvm.Cond.code ({ cls := "CoalHolesModel", name := "foesIn", desc := "(II)I" } : Jvm.MethodName) prog_11_method_54_code (5 : Nat) (Option.some Jvm.ClassFile.FieldType.int)) ∈ Uw := Uw_of 1435 (by decide +kernel) (by decide +kernel)
theorem uw_1436 : (Jvm.Cond.methodLink "CoalHolesModel" (370 : Nat) ({ cls := "CoalHolesModel", name := "areAtWar", desc := "(II)Z" } : Jvm.MethodName)) ∈ Uw := Uw_of 1436 (by decide +kernel) (by decide +kernel)
theorem uw_1438 : (Jvm.Cond.instanceMethod ({ cls := "CoalHolesModel", name := "areAtWar", desc := "(II)Z" } : Jvm.MethodName)) ∈ Uw := Uw_of 1438 (by decide +kernel) (by decide +kernel)
theorem uw_1439 : (Jvm.Cond.code ({ cls := "CoalHolesModel", name := "areAtWar", desc := "(II)Z" } : Jvm.MethodName) prog_11_method_53_code (3 : Nat) (Option.some Jvm.ClassFile.FieldType.boolean)) ∈ Uw := Uw_of 1439 (by decide +kernel) (by decide +kernel)
theorem uw_1440 : (Jvm.Cond.methodLink "CoalHolesModel" (380 : Nat) ({ cls := "CoalHolesModel", name := "bits", desc := "(I)I" } : Jvm.MethodName)) ∈ Uw := Uw_of 1440 (by decide +kernel) (by decide +kernel)
theorem uw_1441 : (Jvm.Cond.static ({ cls := "CoalHolesModel", name := "bits", desc := "(I)I" } : Jvm.MethodName)) ∈ Uw := Uw_of 1441 (by decide +kernel) (by decide +kernel)
theorem uw_1442 : (Jvm.Cond.code ({ cls := "CoalHolesModel", name := "bits", desc := "(I)I" } : Jvm.MethodName) prog_11_method_4_code (3 : Nat) (Option.some Jvm.ClassFile.FieldType.int)) ∈ Uw := Uw_of 1442 (by decide +kernel) (by decide +kernel)
theorem uw_1443 : (Jvm.Cond.methodLink "CoalHolesModel" (383 : Nat) ({ cls := "CoalHolesModel", name := "worked", desc := "(I)I" } : Jvm.MethodName)) ∈ Uw := Uw_of 1443 (by decide +kernel) (by decide +kernel)
theorem uw_1445 : (Jvm.Cond.instanceMethod ({ cls := "CoalHolesModel", name := "worked", desc := "(I)I" } : Jvm.MethodName)) ∈ Uw := Uw_of 1445 (by decide +kernel) (by decide +kernel)
theorem uw_1446 : (Jvm.Cond.code ({ cls := "CoalHolesModel", name := "worked", desc := "(I)I" } : Jvm.MethodName) prog_11_method_18_code (6 : Nat) (Option.some Jvm.ClassFile.FieldType.int)) ∈ Uw := Uw_of 1446 (by decide +kernel) (by decide +kernel)
theorem uw_1447 : (Jvm.Cond.methodLink "CoalHolesModel" (222 : Nat) ({ cls := "CoalHolesModel", name := "opens", desc := "(I)V" } : Jvm.MethodName)) ∈ Uw := Uw_of 1447 (by decide +kernel) (by decide +kernel)
theorem uw_1449 : (Jvm.Cond.instanceMethod ({ cls := "CoalHolesModel", name := "opens", desc := "(I)V" } : Jvm.MethodName)) ∈ Uw := Uw_of 1449 (by decide +kernel) (by decide +kernel)
theorem uw_1450 : (Jvm.Cond.code ({ cls := "CoalHolesModel", name := "opens", desc := "(I)V" } : Jvm.MethodName) prog_11_method_15_code (2 : Nat) (Option.none : Option Jvm.ClassFile.FieldType)) ∈ Uw := Uw_of 1450 (by decide +kernel) (by decide +kernel)
theorem uw_1451 : (Jvm.Cond.methodLink "CoalHolesModel" (219 : Nat) ({ cls := "CoalHolesModel", name := "sums", desc := "(I)V" } : Jvm.MethodName)) ∈ Uw := Uw_of 1451 (by decide +kernel) (by decide +kernel)
theorem uw_1453 : (Jvm.Cond.instanceMethod ({ cls := "CoalHolesModel", name := "sums", desc := "(I)V" } : Jvm.MethodName)) ∈ Uw := Uw_of 1453 (by decide +kernel) (by decide +kernel)
theorem uw_1454 : (Jvm.Cond.code ({ cls := "CoalHolesModel", name := "sums", desc := "(I)V" } : Jvm.MethodName) prog_11_method_16_code (2 : Nat) (Option.none : Option Jvm.ClassFile.FieldType)) ∈ Uw := Uw_of 1454 (by decide +kernel) (by decide +kernel)
theorem uw_1455 : (Jvm.Cond.methodLink "CoalHolesModel" (225 : Nat) ({ cls := "CoalHolesModel", name := "tests", desc := "(I)V" } : Jvm.MethodName)) ∈ Uw := Uw_of 1455 (by decide +kernel) (by decide +kernel)
theorem uw_1457 : (Jvm.Cond.instanceMethod ({ cls := "CoalHolesModel", name := "tests", desc := "(I)V" } : Jvm.MethodName)) ∈ Uw := Uw_of 1457 (by decide +kernel) (by decide +kernel)
theorem uw_1458 : (Jvm.Cond.code ({ cls := "CoalHolesModel", name := "tests", desc := "(I)V" } : Jvm.MethodName) prog_11_method_17_code (3 : Nat) (Option.none : Option Jvm.ClassFile.FieldType)) ∈ Uw := Uw_of 1458 (by decide +kernel) (by decide +kernel)
theorem uw_1459 : (Jvm.Cond.methodLink "CoalHolesLaw" (43 : Nat) ({ cls := "CoalHolesModel", name := "guest", desc := "(II)I" } : Jvm.MethodName)) ∈ Uw := Uw_of 1459 (by decide +kernel) (by decide +kernel)
theorem uw_1460 : (Jvm.Cond.instanceMethod ({ cls := "CoalHolesModel", name := "guest", desc := "(II)I" } : Jvm.MethodName)) ∈ Uw := Uw_of 1460 (by decide +kernel) (by decide +kernel)
theorem uw_1461 : (Jvm.Cond.selects "CoalHolesModel" ({ cls := "CoalHolesModel", name := "guest", desc := "(II)I" } : Jvm.MethodName) ({ cls := "CoalHolesModel", name := "guest", desc := "(II)I" } : Jvm.MethodName)) ∈ Uw := Uw_of 1461 (by decide +kernel) (by decide +kernel)
theorem uw_1462 : (Jvm.Cond.code ({ cls := "CoalHolesModel", name := "guest", desc := "(II)I" } : Jvm.MethodName) prog_11_method_63_code (3 : Nat) (Option.some Jvm.ClassFile.FieldType.int)) ∈ Uw := Uw_of 1462 (by decide +kernel) (by decide +kernel)
theorem uw_1463 : (Jvm.Cond.methodLink "CoalHolesModel" (409 : Nat) ({ cls := "CoalHolesModel", name := "isGuest", desc := "(I)Z" } : Jvm.MethodName)) ∈ Uw := Uw_of 1463 (by decide +kernel) (by decide +kernel)
theorem uw_1465 : (Jvm.Cond.instanceMethod ({ cls := "CoalHolesModel", name := "isGuest", desc := "(I)Z" } : Jvm.MethodName)) ∈ Uw := Uw_of 1465 (by decide +kernel) (by decide +kernel)
theorem uw_1466 : (Jvm.Cond.code ({ cls := "CoalHolesModel", name := "isGuest", desc := "(I)Z" } : Jvm.MethodName) prog_11_method_48_code (2 : Nat) (Option.some Jvm.ClassFile.FieldType.boolean)) ∈ Uw := Uw_of 1466 (by decide +kernel) (by decide +kernel)
theorem uw_1467 : (Jvm.Cond.methodLink "CoalHolesModel" (364 : Nat) ({ cls := "CoalHolesModel", name := "isSeized", desc := "(I)Z" } : Jvm.MethodName)) ∈ Uw := Uw_of 1467 (by decide +kernel) (by decide +kernel)
theorem uw_1469 : (Jvm.Cond.instanceMethod ({ cls := "CoalHolesModel", name := "isSeized", desc := "(I)Z" } : Jvm.MethodName)) ∈ Uw := Uw_of 1469 (by decide +kernel) (by decide +kernel)
theorem uw_1470 : (Jvm.Cond.code ({ cls := "CoalHolesModel", name := "isSeized", desc := "(I)Z" } : Jvm.MethodName) prog_11_method_49_code (2 : Nat) (Option.some Jvm.ClassFile.FieldType.boolean)) ∈ Uw := Uw_of 1470 (by decide +kernel) (by decide +kernel)
theorem uw_1471 : (Jvm.Cond.methodLink "CoalHolesModel" (412 : Nat) ({ cls := "CoalHolesModel", name := "foesOf", desc := "(I)I" } : Jvm.MethodName)) ∈ Uw := Uw_of 1471 (by decide +kernel) (by decide +kernel)
theorem uw_1473 : (Jvm.Cond.instanceMethod ({ cls := "CoalHolesModel", name := "foesOf", desc := "(I)I" } : Jvm.MethodName)) ∈ Uw := Uw_of 1473 (by decide +kernel) (by decide +kernel)
theorem uw_1474 : (Jvm.Cond.code ({ cls := "CoalHolesModel", name := "foesOf", desc := "(I)I" } : Jvm.MethodName) prog_11_method_62_code (2 : Nat) (Option.some Jvm.ClassFile.FieldType.int)) ∈ Uw := Uw_of 1474 (by decide +kernel) (by decide +kernel)
theorem uw_1475 : (Jvm.Cond.methodLink "CoalHolesModel" (406 : Nat) ({ cls := "CoalHolesModel", name := "outsiders", desc := "()I" } : Jvm.MethodName)) ∈ Uw := Uw_of 1475 (by decide +kernel) (by decide +kernel)
theorem uw_1477 : (Jvm.Cond.instanceMethod ({ cls := "CoalHolesModel", name := "outsiders", desc := "()I" } : Jvm.MethodName)) ∈ Uw := Uw_of 1477 (by decide +kernel) (by decide +kernel)
theorem uw_1478 : (Jvm.Cond.code ({ cls := "CoalHolesModel", name := "outsiders", desc := "()I" } : Jvm.MethodName) prog_11_method_51_code (3 : Nat) (Option.some Jvm.ClassFile.FieldType.int)) ∈ Uw := Uw_of 1478 (by decide +kernel) (by decide +kernel)
theorem uw_1479 : (Jvm.Cond.methodLink "CoalHolesModel" (367 : Nat) ({ cls := "CoalHolesModel", name := "isOutside", desc := "(I)Z" } : Jvm.MethodName)) ∈ Uw := Uw_of 1479 (by decide +kernel) (by decide +kernel)
theorem uw_1481 : (Jvm.Cond.instanceMethod ({ cls := "CoalHolesModel", name := "isOutside", desc := "(I)Z" } : Jvm.MethodName)) ∈ Uw := Uw_of 1481 (by decide +kernel) (by decide +kernel)
theorem uw_1482 : (Jvm.Cond.code ({ cls := "CoalHolesModel", name := "isOutside", desc := "(I)Z" } : Jvm.MethodName) prog_11_method_50_code (2 : Nat) (Option.some Jvm.ClassFile.FieldType.boolean)) ∈ Uw := Uw_of 1482 (by decide +kernel) (by decide +kernel)
theorem uw_1483 : (Jvm.Cond.methodLink "CoalHolesLaw" (48 : Nat) ({ cls := "CoalHolesModel", name := "down", desc := "(II)Z" } : Jvm.MethodName)) ∈ Uw := Uw_of 1483 (by decide +kernel) (by decide +kernel)
theorem uw_1484 : (Jvm.Cond.instanceMethod ({ cls := "CoalHolesModel", name := "down", desc := "(II)Z" } : Jvm.MethodName)) ∈ Uw := Uw_of 1484 (by decide +kernel) (by decide +kernel)
theorem uw_1485 : (Jvm.Cond.selects "CoalHolesModel" ({ cls := "CoalHolesModel", name := "down", desc := "(II)Z" } : Jvm.MethodName) ({ cls := "CoalHolesModel", name := "down", desc := "(II)Z" } : Jvm.MethodName)) ∈ Uw := Uw_of 1485 (by decide +kernel) (by decide +kernel)
theorem uw_1486 : (Jvm.Cond.code ({ cls := "CoalHolesModel", name := "down", desc := "(II)Z" } : Jvm.MethodName) prog_11_method_65_code (3 : Nat) (Option.some Jvm.ClassFile.FieldType.boolean)) ∈ Uw := Uw_of 1486 (by decide +kernel) (by decide +kernel)
theorem uw_1487 : (Jvm.Cond.methodLink "CoalHolesModel" (419 : Nat) ({ cls := "CoalHolesModel", name := "canDown", desc := "(II)Z" } : Jvm.MethodName)) ∈ Uw := Uw_of 1487 (by decide +kernel) (by decide +kernel)
theorem uw_1489 : (Jvm.Cond.instanceMethod ({ cls := "CoalHolesModel", name := "canDown", desc := "(II)Z" } : Jvm.MethodName)) ∈ Uw := Uw_of 1489 (by decide +kernel) (by decide +kernel)
theorem uw_1490 : (Jvm.Cond.code ({ cls := "CoalHolesModel", name := "canDown", desc := "(II)Z" } : Jvm.MethodName) prog_11_method_56_code (3 : Nat) (Option.some Jvm.ClassFile.FieldType.boolean)) ∈ Uw := Uw_of 1490 (by decide +kernel) (by decide +kernel)
theorem uw_1491 : (Jvm.Cond.methodLink "CoalHolesModel" (422 : Nat) ({ cls := "CoalHolesModel", name := "keeps", desc := "()V" } : Jvm.MethodName)) ∈ Uw := Uw_of 1491 (by decide +kernel) (by decide +kernel)
theorem uw_1493 : (Jvm.Cond.instanceMethod ({ cls := "CoalHolesModel", name := "keeps", desc := "()V" } : Jvm.MethodName)) ∈ Uw := Uw_of 1493 (by decide +kernel) (by decide +kernel)
theorem uw_1494 : (Jvm.Cond.code ({ cls := "CoalHolesModel", name := "keeps", desc := "()V" } : Jvm.MethodName) prog_11_method_64_code (2 : Nat) (Option.none : Option Jvm.ClassFile.FieldType)) ∈ Uw := Uw_of 1494 (by decide +kernel) (by decide +kernel)
theorem uw_1495 : (Jvm.Cond.methodLink "CoalHolesModel" (415 : Nat) ({ cls := "CoalHolesModel", name := "copies", desc := "([II[II)V" } : Jvm.MethodName)) ∈ Uw := Uw_of 1495 (by decide +kernel) (by decide +kernel)
theorem uw_1496 : (Jvm.Cond.static ({ cls := "CoalHolesModel", name := "copies", desc := "([II[II)V" } : Jvm.MethodName)) ∈ Uw := Uw_of 1496 (by decide +kernel) (by decide +kernel)
theorem uw_1497 : (Jvm.Cond.code ({ cls := "CoalHolesModel", name := "copies", desc := "([II[II)V" } : Jvm.MethodName) prog_11_method_40_code (5 : Nat) (Option.none : Option Jvm.ClassFile.FieldType)) ∈ Uw := Uw_of 1497 (by decide +kernel) (by decide +kernel)
theorem uw_1498 : (Jvm.Cond.methodLink "CoalHolesLaw" (53 : Nat) ({ cls := "CoalHolesModel", name := "up", desc := "(I)Z" } : Jvm.MethodName)) ∈ Uw := Uw_of 1498 (by decide +kernel) (by decide +kernel)
theorem uw_1499 : (Jvm.Cond.instanceMethod ({ cls := "CoalHolesModel", name := "up", desc := "(I)Z" } : Jvm.MethodName)) ∈ Uw := Uw_of 1499 (by decide +kernel) (by decide +kernel)
theorem uw_1500 : (Jvm.Cond.selects "CoalHolesModel" ({ cls := "CoalHolesModel", name := "up", desc := "(I)Z" } : Jvm.MethodName) ({ cls := "CoalHolesModel", name := "up", desc := "(I)Z" } : Jvm.MethodName)) ∈ Uw := Uw_of 1500 (by decide +kernel) (by decide +kernel)
theorem uw_1501 : (Jvm.Cond.code ({ cls := "CoalHolesModel", name := "up", desc := "(I)Z" } : Jvm.MethodName) prog_11_method_66_code (2 : Nat) (Option.some Jvm.ClassFile.FieldType.boolean)) ∈ Uw := Uw_of 1501 (by decide +kernel) (by decide +kernel)
theorem uw_1502 : (Jvm.Cond.methodLink "CoalHolesLaw" (57 : Nat) ({ cls := "CoalHolesModel", name := "through", desc := "(II)Z" } : Jvm.MethodName)) ∈ Uw := Uw_of 1502 (by decide +kernel) (by decide +kernel)
theorem uw_1503 : (Jvm.Cond.instanceMethod ({ cls := "CoalHolesModel", name := "through", desc := "(II)Z" } : Jvm.MethodName)) ∈ Uw := Uw_of 1503 (by decide +kernel) (by decide +kernel)
theorem uw_1504 : (Jvm.Cond.selects "CoalHolesModel" ({ cls := "CoalHolesModel", name := "through", desc := "(II)Z" } : Jvm.MethodName) ({ cls := "CoalHolesModel", name := "through", desc := "(II)Z" } : Jvm.MethodName)) ∈ Uw := Uw_of 1504 (by decide +kernel) (by decide +kernel)
theorem uw_1505 : (Jvm.Cond.code ({ cls := "CoalHolesModel", name := "through", desc := "(II)Z" } : Jvm.MethodName) prog_11_method_67_code (3 : Nat) (Option.some Jvm.ClassFile.FieldType.boolean)) ∈ Uw := Uw_of 1505 (by decide +kernel) (by decide +kernel)
theorem uw_1506 : (Jvm.Cond.methodLink "CoalHolesModel" (425 : Nat) ({ cls := "CoalHolesModel", name := "canCross", desc := "(II)Z" } : Jvm.MethodName)) ∈ Uw := Uw_of 1506 (by decide +kernel) (by decide +kernel)
theorem uw_1508 : (Jvm.Cond.instanceMethod ({ cls := "CoalHolesModel", name := "canCross", desc := "(II)Z" } : Jvm.MethodName)) ∈ Uw := Uw_of 1508 (by decide +kernel) (by decide +kernel)
theorem uw_1509 : (Jvm.Cond.code ({ cls := "CoalHolesModel", name := "canCross", desc := "(II)Z" } : Jvm.MethodName) prog_11_method_57_code (3 : Nat) (Option.some Jvm.ClassFile.FieldType.boolean)) ∈ Uw := Uw_of 1509 (by decide +kernel) (by decide +kernel)
theorem uw_1510 : (Jvm.Cond.methodLink "CoalHolesLaw" (62 : Nat) ({ cls := "CoalHolesModel", name := "bring", desc := "(I)I" } : Jvm.MethodName)) ∈ Uw := Uw_of 1510 (by decide +kernel) (by decide +kernel)
theorem uw_1511 : (Jvm.Cond.instanceMethod ({ cls := "CoalHolesModel", name := "bring", desc := "(I)I" } : Jvm.MethodName)) ∈ Uw := Uw_of 1511 (by decide +kernel) (by decide +kernel)
theorem uw_1512 : (Jvm.Cond.selects "CoalHolesModel" ({ cls := "CoalHolesModel", name := "bring", desc := "(I)I" } : Jvm.MethodName) ({ cls := "CoalHolesModel", name := "bring", desc := "(I)I" } : Jvm.MethodName)) ∈ Uw := Uw_of 1512 (by decide +kernel) (by decide +kernel)
theorem uw_1513 : (Jvm.Cond.code ({ cls := "CoalHolesModel", name := "bring", desc := "(I)I" } : Jvm.MethodName) prog_11_method_68_code (2 : Nat) (Option.some Jvm.ClassFile.FieldType.int)) ∈ Uw := Uw_of 1513 (by decide +kernel) (by decide +kernel)
theorem uw_1514 : (Jvm.Cond.methodLink "CoalHolesModel" (428 : Nat) ({ cls := "CoalHolesModel", name := "brings", desc := "(I)V" } : Jvm.MethodName)) ∈ Uw := Uw_of 1514 (by decide +kernel) (by decide +kernel)
theorem uw_1516 : (Jvm.Cond.instanceMethod ({ cls := "CoalHolesModel", name := "brings", desc := "(I)V" } : Jvm.MethodName)) ∈ Uw := Uw_of 1516 (by decide +kernel) (by decide +kernel)
theorem uw_1517 : (Jvm.Cond.code ({ cls := "CoalHolesModel", name := "brings", desc := "(I)V" } : Jvm.MethodName) prog_11_method_58_code (2 : Nat) (Option.none : Option Jvm.ClassFile.FieldType)) ∈ Uw := Uw_of 1517 (by decide +kernel) (by decide +kernel)
theorem uw_1518 : (Jvm.Cond.methodLink "CoalHolesModel" (389 : Nat) ({ cls := "java/lang/Math", name := "min", desc := "(II)I" } : Jvm.MethodName)) ∈ Uw := Uw_of 1518 (by decide +kernel) (by decide +kernel)
theorem uw_1519 : (Jvm.Cond.methodLink "CoalHolesLaw" (66 : Nat) ({ cls := "CoalHolesModel", name := "day", desc := "()I" } : Jvm.MethodName)) ∈ Uw := Uw_of 1519 (by decide +kernel) (by decide +kernel)
theorem uw_1520 : (Jvm.Cond.instanceMethod ({ cls := "CoalHolesModel", name := "day", desc := "()I" } : Jvm.MethodName)) ∈ Uw := Uw_of 1520 (by decide +kernel) (by decide +kernel)
theorem uw_1521 : (Jvm.Cond.selects "CoalHolesModel" ({ cls := "CoalHolesModel", name := "day", desc := "()I" } : Jvm.MethodName) ({ cls := "CoalHolesModel", name := "day", desc := "()I" } : Jvm.MethodName)) ∈ Uw := Uw_of 1521 (by decide +kernel) (by decide +kernel)
theorem uw_1522 : (Jvm.Cond.code ({ cls := "CoalHolesModel", name := "day", desc := "()I" } : Jvm.MethodName) prog_11_method_69_code (1 : Nat) (Option.some Jvm.ClassFile.FieldType.int)) ∈ Uw := Uw_of 1522 (by decide +kernel) (by decide +kernel)
theorem uw_1523 : (Jvm.Cond.methodLink "CoalHolesModel" (431 : Nat) ({ cls := "CoalHolesModel", name := "passes", desc := "()I" } : Jvm.MethodName)) ∈ Uw := Uw_of 1523 (by decide +kernel) (by decide +kernel)
theorem uw_1525 : (Jvm.Cond.instanceMethod ({ cls := "CoalHolesModel", name := "passes", desc := "()I" } : Jvm.MethodName)) ∈ Uw := Uw_of 1525 (by decide +kernel) (by decide +kernel)
theorem uw_1526 : (Jvm.Cond.code ({ cls := "CoalHolesModel", name := "passes", desc := "()I" } : Jvm.MethodName) prog_11_method_60_code (3 : Nat) (Option.some Jvm.ClassFile.FieldType.int)) ∈ Uw := Uw_of 1526 (by decide +kernel) (by decide +kernel)
theorem uw_1527 : (Jvm.Cond.methodLink "CoalHolesModel" (394 : Nat) ({ cls := "CoalHolesModel", name := "coldOf", desc := "(I)I" } : Jvm.MethodName)) ∈ Uw := Uw_of 1527 (by decide +kernel) (by decide +kernel)
theorem uw_1529 : (Jvm.Cond.instanceMethod ({ cls := "CoalHolesModel", name := "coldOf", desc := "(I)I" } : Jvm.MethodName)) ∈ Uw := Uw_of 1529 (by decide +kernel) (by decide +kernel)
theorem uw_1530 : (Jvm.Cond.code ({ cls := "CoalHolesModel", name := "coldOf", desc := "(I)I" } : Jvm.MethodName) prog_11_method_59_code (2 : Nat) (Option.some Jvm.ClassFile.FieldType.int)) ∈ Uw := Uw_of 1530 (by decide +kernel) (by decide +kernel)
theorem uw_1531 : (Jvm.Cond.methodLink "CoalHolesModel" (400 : Nat) ({ cls := "java/lang/Math", name := "max", desc := "(II)I" } : Jvm.MethodName)) ∈ Uw := Uw_of 1531 (by decide +kernel) (by decide +kernel)
theorem uw_1532 : (Jvm.Cond.methodLink "CoalHolesLaw" (71 : Nat) ({ cls := "CoalHolesModel", name := "undo", desc := "()Z" } : Jvm.MethodName)) ∈ Uw := Uw_of 1532 (by decide +kernel) (by decide +kernel)
theorem uw_1533 : (Jvm.Cond.instanceMethod ({ cls := "CoalHolesModel", name := "undo", desc := "()Z" } : Jvm.MethodName)) ∈ Uw := Uw_of 1533 (by decide +kernel) (by decide +kernel)
theorem uw_1534 : (Jvm.Cond.selects "CoalHolesModel" ({ cls := "CoalHolesModel", name := "undo", desc := "()Z" } : Jvm.MethodName) ({ cls := "CoalHolesModel", name := "undo", desc := "()Z" } : Jvm.MethodName)) ∈ Uw := Uw_of 1534 (by decide +kernel) (by decide +kernel)
theorem uw_1535 : (Jvm.Cond.code ({ cls := "CoalHolesModel", name := "undo", desc := "()Z" } : Jvm.MethodName) prog_11_method_70_code (1 : Nat) (Option.some Jvm.ClassFile.FieldType.boolean)) ∈ Uw := Uw_of 1535 (by decide +kernel) (by decide +kernel)
theorem uw_1536 : (Jvm.Cond.methodLink "CoalHolesLaw" (75 : Nat) ({ cls := "CoalHolesModel", name := "judged", desc := "(I)I" } : Jvm.MethodName)) ∈ Uw := Uw_of 1536 (by decide +kernel) (by decide +kernel)
theorem uw_1537 : (Jvm.Cond.instanceMethod ({ cls := "CoalHolesModel", name := "judged", desc := "(I)I" } : Jvm.MethodName)) ∈ Uw := Uw_of 1537 (by decide +kernel) (by decide +kernel)
theorem uw_1538 : (Jvm.Cond.selects "CoalHolesModel" ({ cls := "CoalHolesModel", name := "judged", desc := "(I)I" } : Jvm.MethodName) ({ cls := "CoalHolesModel", name := "judged", desc := "(I)I" } : Jvm.MethodName)) ∈ Uw := Uw_of 1538 (by decide +kernel) (by decide +kernel)
theorem uw_1539 : (Jvm.Cond.code ({ cls := "CoalHolesModel", name := "judged", desc := "(I)I" } : Jvm.MethodName) prog_11_method_72_code (4 : Nat) (Option.some Jvm.ClassFile.FieldType.int)) ∈ Uw := Uw_of 1539 (by decide +kernel) (by decide +kernel)
theorem uw_1540 : (Jvm.Cond.methodLink "CoalHolesModel" (437 : Nat) ({ cls := "CoalHolesModel", name := "goes", desc := "(I)Z" } : Jvm.MethodName)) ∈ Uw := Uw_of 1540 (by decide +kernel) (by decide +kernel)
theorem uw_1542 : (Jvm.Cond.instanceMethod ({ cls := "CoalHolesModel", name := "goes", desc := "(I)Z" } : Jvm.MethodName)) ∈ Uw := Uw_of 1542 (by decide +kernel) (by decide +kernel)
theorem uw_1543 : (Jvm.Cond.code ({ cls := "CoalHolesModel", name := "goes", desc := "(I)Z" } : Jvm.MethodName) prog_11_method_71_code (5 : Nat) (Option.some Jvm.ClassFile.FieldType.boolean)) ∈ Uw := Uw_of 1543 (by decide +kernel) (by decide +kernel)
theorem uw_1544 : (Jvm.Cond.methodLink "CoalHolesLaw" (79 : Nat) ({ cls := "CoalHolesModel", name := "lasts", desc := "(I)I" } : Jvm.MethodName)) ∈ Uw := Uw_of 1544 (by decide +kernel) (by decide +kernel)
theorem uw_1545 : (Jvm.Cond.instanceMethod ({ cls := "CoalHolesModel", name := "lasts", desc := "(I)I" } : Jvm.MethodName)) ∈ Uw := Uw_of 1545 (by decide +kernel) (by decide +kernel)
theorem uw_1546 : (Jvm.Cond.selects "CoalHolesModel" ({ cls := "CoalHolesModel", name := "lasts", desc := "(I)I" } : Jvm.MethodName) ({ cls := "CoalHolesModel", name := "lasts", desc := "(I)I" } : Jvm.MethodName)) ∈ Uw := Uw_of 1546 (by decide +kernel) (by decide +kernel)
theorem uw_1547 : (Jvm.Cond.code ({ cls := "CoalHolesModel", name := "lasts", desc := "(I)I" } : Jvm.MethodName) prog_11_method_74_code (2 : Nat) (Option.some Jvm.ClassFile.FieldType.int)) ∈ Uw := Uw_of 1547 (by decide +kernel) (by decide +kernel)
theorem uw_1548 : (Jvm.Cond.methodLink "CoalHolesModel" (440 : Nat) ({ cls := "CoalHolesModel", name := "emptyIn", desc := "(II)I" } : Jvm.MethodName)) ∈ Uw := Uw_of 1548 (by decide +kernel) (by decide +kernel)
theorem uw_1550 : (Jvm.Cond.instanceMethod ({ cls := "CoalHolesModel", name := "emptyIn", desc := "(II)I" } : Jvm.MethodName)) ∈ Uw := Uw_of 1550 (by decide +kernel) (by decide +kernel)
theorem uw_1551 : (Jvm.Cond.code ({ cls := "CoalHolesModel", name := "emptyIn", desc := "(II)I" } : Jvm.MethodName) prog_11_method_73_code (4 : Nat) (Option.some Jvm.ClassFile.FieldType.int)) ∈ Uw := Uw_of 1551 (by decide +kernel) (by decide +kernel)
theorem uw_1552 : (Jvm.Cond.methodLink "CoalHolesLaw" (83 : Nat) ({ cls := "CoalHolesModel", name := "safe", desc := "(I)I" } : Jvm.MethodName)) ∈ Uw := Uw_of 1552 (by decide +kernel) (by decide +kernel)
theorem uw_1553 : (Jvm.Cond.instanceMethod ({ cls := "CoalHolesModel", name := "safe", desc := "(I)I" } : Jvm.MethodName)) ∈ Uw := Uw_of 1553 (by decide +kernel) (by decide +kernel)
theorem uw_1554 : (Jvm.Cond.selects "CoalHolesModel" ({ cls := "CoalHolesModel", name := "safe", desc := "(I)I" } : Jvm.MethodName) ({ cls := "CoalHolesModel", name := "safe", desc := "(I)I" } : Jvm.MethodName)) ∈ Uw := Uw_of 1554 (by decide +kernel) (by decide +kernel)
theorem uw_1555 : (Jvm.Cond.code ({ cls := "CoalHolesModel", name := "safe", desc := "(I)I" } : Jvm.MethodName) prog_11_method_76_code (3 : Nat) (Option.some Jvm.ClassFile.FieldType.int)) ∈ Uw := Uw_of 1555 (by decide +kernel) (by decide +kernel)
theorem uw_1556 : (Jvm.Cond.methodLink "CoalHolesModel" (443 : Nat) ({ cls := "CoalHolesModel", name := "safeFor", desc := "(I)I" } : Jvm.MethodName)) ∈ Uw := Uw_of 1556 (by decide +kernel) (by decide +kernel)
theorem uw_1558 : (Jvm.Cond.instanceMethod ({ cls := "CoalHolesModel", name := "safeFor", desc := "(I)I" } : Jvm.MethodName)) ∈ Uw := Uw_of 1558 (by decide +kernel) (by decide +kernel)
theorem uw_1559 : (Jvm.Cond.code ({ cls := "CoalHolesModel", name := "safeFor", desc := "(I)I" } : Jvm.MethodName) prog_11_method_75_code (4 : Nat) (Option.some Jvm.ClassFile.FieldType.int)) ∈ Uw := Uw_of 1559 (by decide +kernel) (by decide +kernel)
theorem uw_1560 : (Jvm.Cond.methodLink "CoalHolesLaw" (87 : Nat) ({ cls := "CoalHolesModel", name := "refuge", desc := "(I)I" } : Jvm.MethodName)) ∈ Uw := Uw_of 1560 (by decide +kernel) (by decide +kernel)
theorem uw_1561 : (Jvm.Cond.instanceMethod ({ cls := "CoalHolesModel", name := "refuge", desc := "(I)I" } : Jvm.MethodName)) ∈ Uw := Uw_of 1561 (by decide +kernel) (by decide +kernel)
theorem uw_1562 : (Jvm.Cond.selects "CoalHolesModel" ({ cls := "CoalHolesModel", name := "refuge", desc := "(I)I" } : Jvm.MethodName) ({ cls := "CoalHolesModel", name := "refuge", desc := "(I)I" } : Jvm.MethodName)) ∈ Uw := Uw_of 1562 (by decide +kernel) (by decide +kernel)
theorem uw_1563 : (Jvm.Cond.code ({ cls := "CoalHolesModel", name := "refuge", desc := "(I)I" } : Jvm.MethodName) prog_11_method_77_code (6 : Nat) (Option.some Jvm.ClassFile.FieldType.int)) ∈ Uw := Uw_of 1563 (by decide +kernel) (by decide +kernel)
theorem uw_1564 : (Jvm.Cond.methodLink "CoalHolesLaw" (91 : Nat) ({ cls := "CoalHolesModel", name := "sacks", desc := "(II)I" } : Jvm.MethodName)) ∈ Uw := Uw_of 1564 (by decide +kernel) (by decide +kernel)
theorem uw_1565 : (Jvm.Cond.instanceMethod ({ cls := "CoalHolesModel", name := "sacks", desc := "(II)I" } : Jvm.MethodName)) ∈ Uw := Uw_of 1565 (by decide +kernel) (by decide +kernel)
theorem uw_1566 : (Jvm.Cond.selects "CoalHolesModel" ({ cls := "CoalHolesModel", name := "sacks", desc := "(II)I" } : Jvm.MethodName) ({ cls := "CoalHolesModel", name := "sacks", desc := "(II)I" } : Jvm.MethodName)) ∈ Uw := Uw_of 1566 (by decide +kernel) (by decide +kernel)
theorem uw_1567 : (Jvm.Cond.code ({ cls := "CoalHolesModel", name := "sacks", desc := "(II)I" } : Jvm.MethodName) prog_11_method_80_code (3 : Nat) (Option.some Jvm.ClassFile.FieldType.int)) ∈ Uw := Uw_of 1567 (by decide +kernel) (by decide +kernel)
theorem uw_1568 : (Jvm.Cond.methodLink "CoalHolesModel" (452 : Nat) ({ cls := "CoalHolesModel", name := "stocks", desc := "(III)V" } : Jvm.MethodName)) ∈ Uw := Uw_of 1568 (by decide +kernel) (by decide +kernel)
theorem uw_1570 : (Jvm.Cond.instanceMethod ({ cls := "CoalHolesModel", name := "stocks", desc := "(III)V" } : Jvm.MethodName)) ∈ Uw := Uw_of 1570 (by decide +kernel) (by decide +kernel)
theorem uw_1571 : (Jvm.Cond.code ({ cls := "CoalHolesModel", name := "stocks", desc := "(III)V" } : Jvm.MethodName) prog_11_method_79_code (6 : Nat) (Option.none : Option Jvm.ClassFile.FieldType)) ∈ Uw := Uw_of 1571 (by decide +kernel) (by decide +kernel)
theorem uw_1572 : (Jvm.Cond.methodLink "CoalHolesModel" (449 : Nat) ({ cls := "CoalHolesModel", name := "goesOn", desc := "(I)V" } : Jvm.MethodName)) ∈ Uw := Uw_of 1572 (by decide +kernel) (by decide +kernel)
theorem uw_1574 : (Jvm.Cond.instanceMethod ({ cls := "CoalHolesModel", name := "goesOn", desc := "(I)V" } : Jvm.MethodName)) ∈ Uw := Uw_of 1574 (by decide +kernel) (by decide +kernel)
theorem uw_1575 : (Jvm.Cond.code ({ cls := "CoalHolesModel", name := "goesOn", desc := "(I)V" } : Jvm.MethodName) prog_11_method_78_code (3 : Nat) (Option.none : Option Jvm.ClassFile.FieldType)) ∈ Uw := Uw_of 1575 (by decide +kernel) (by decide +kernel)
theorem uw_1576 : (Jvm.Cond.methodLink "CoalHolesLaw" (95 : Nat) ({ cls := "CoalHolesModel", name := "lodging", desc := "(II)I" } : Jvm.MethodName)) ∈ Uw := Uw_of 1576 (by decide +kernel) (by decide +kernel)
theorem uw_1577 : (Jvm.Cond.instanceMethod ({ cls := "CoalHolesModel", name := "lodging", desc := "(II)I" } : Jvm.MethodName)) ∈ Uw := Uw_of 1577 (by decide +kernel) (by decide +kernel)
theorem uw_1578 : (Jvm.Cond.selects "CoalHolesModel" ({ cls := "CoalHolesModel", name := "lodging", desc := "(II)I" } : Jvm.MethodName) ({ cls := "CoalHolesModel", name := "lodging", desc := "(II)I" } : Jvm.MethodName)) ∈ Uw := Uw_of 1578 (by decide +kernel) (by decide +kernel)
theorem uw_1579 : (Jvm.Cond.code ({ cls := "CoalHolesModel", name := "lodging", desc := "(II)I" } : Jvm.MethodName) prog_11_method_82_code (3 : Nat) (Option.some Jvm.ClassFile.FieldType.int)) ∈ Uw := Uw_of 1579 (by decide +kernel) (by decide +kernel)
theorem uw_1580 : (Jvm.Cond.methodLink "CoalHolesModel" (462 : Nat) ({ cls := "CoalHolesModel", name := "lodges", desc := "(II)V" } : Jvm.MethodName)) ∈ Uw := Uw_of 1580 (by decide +kernel) (by decide +kernel)
theorem uw_1582 : (Jvm.Cond.instanceMethod ({ cls := "CoalHolesModel", name := "lodges", desc := "(II)V" } : Jvm.MethodName)) ∈ Uw := Uw_of 1582 (by decide +kernel) (by decide +kernel)
theorem uw_1583 : (Jvm.Cond.code ({ cls := "CoalHolesModel", name := "lodges", desc := "(II)V" } : Jvm.MethodName) prog_11_method_81_code (6 : Nat) (Option.none : Option Jvm.ClassFile.FieldType)) ∈ Uw := Uw_of 1583 (by decide +kernel) (by decide +kernel)
theorem uw_1584 : (Jvm.Cond.methodLink "CoalHolesLaw" (99 : Nat) ({ cls := "CoalHolesModel", name := "note", desc := "(II)I" } : Jvm.MethodName)) ∈ Uw := Uw_of 1584 (by decide +kernel) (by decide +kernel)
theorem uw_1585 : (Jvm.Cond.instanceMethod ({ cls := "CoalHolesModel", name := "note", desc := "(II)I" } : Jvm.MethodName)) ∈ Uw := Uw_of 1585 (by decide +kernel) (by decide +kernel)
theorem uw_1586 : (Jvm.Cond.selects "CoalHolesModel" ({ cls := "CoalHolesModel", name := "note", desc := "(II)I" } : Jvm.MethodName) ({ cls := "CoalHolesModel", name := "note", desc := "(II)I" } : Jvm.MethodName)) ∈ Uw := Uw_of 1586 (by decide +kernel) (by decide +kernel)
theorem uw_1587 : (Jvm.Cond.code ({ cls := "CoalHolesModel", name := "note", desc := "(II)I" } : Jvm.MethodName) prog_11_method_83_code (7 : Nat) (Option.some Jvm.ClassFile.FieldType.int)) ∈ Uw := Uw_of 1587 (by decide +kernel) (by decide +kernel)
theorem uw_1588 : (Jvm.Cond.methodLink "CoalHolesLaw" (103 : Nat) ({ cls := "CoalHolesModel", name := "full", desc := "()I" } : Jvm.MethodName)) ∈ Uw := Uw_of 1588 (by decide +kernel) (by decide +kernel)
theorem uw_1589 : (Jvm.Cond.instanceMethod ({ cls := "CoalHolesModel", name := "full", desc := "()I" } : Jvm.MethodName)) ∈ Uw := Uw_of 1589 (by decide +kernel) (by decide +kernel)
theorem uw_1590 : (Jvm.Cond.selects "CoalHolesModel" ({ cls := "CoalHolesModel", name := "full", desc := "()I" } : Jvm.MethodName) ({ cls := "CoalHolesModel", name := "full", desc := "()I" } : Jvm.MethodName)) ∈ Uw := Uw_of 1590 (by decide +kernel) (by decide +kernel)
theorem uw_1591 : (Jvm.Cond.code ({ cls := "CoalHolesModel", name := "full", desc := "()I" } : Jvm.MethodName) prog_11_method_84_code (5 : Nat) (Option.some Jvm.ClassFile.FieldType.int)) ∈ Uw := Uw_of 1591 (by decide +kernel) (by decide +kernel)
theorem uw_1592 : (Jvm.Cond.methodLink "CoalHolesLaw" (107 : Nat) ({ cls := "CoalHolesModel", name := "pairs", desc := "()I" } : Jvm.MethodName)) ∈ Uw := Uw_of 1592 (by decide +kernel) (by decide +kernel)
theorem uw_1593 : (Jvm.Cond.instanceMethod ({ cls := "CoalHolesModel", name := "pairs", desc := "()I" } : Jvm.MethodName)) ∈ Uw := Uw_of 1593 (by decide +kernel) (by decide +kernel)
theorem uw_1594 : (Jvm.Cond.selects "CoalHolesModel" ({ cls := "CoalHolesModel", name := "pairs", desc := "()I" } : Jvm.MethodName) ({ cls := "CoalHolesModel", name := "pairs", desc := "()I" } : Jvm.MethodName)) ∈ Uw := Uw_of 1594 (by decide +kernel) (by decide +kernel)
theorem uw_1595 : (Jvm.Cond.code ({ cls := "CoalHolesModel", name := "pairs", desc := "()I" } : Jvm.MethodName) prog_11_method_85_code (4 : Nat) (Option.some Jvm.ClassFile.FieldType.int)) ∈ Uw := Uw_of 1595 (by decide +kernel) (by decide +kernel)
theorem uw_1596 : (Jvm.Cond.methodLink "CoalHolesLaw" (111 : Nat) ({ cls := "CoalHolesModel", name := "line", desc := "(II)I" } : Jvm.MethodName)) ∈ Uw := Uw_of 1596 (by decide +kernel) (by decide +kernel)
theorem uw_1597 : (Jvm.Cond.instanceMethod ({ cls := "CoalHolesModel", name := "line", desc := "(II)I" } : Jvm.MethodName)) ∈ Uw := Uw_of 1597 (by decide +kernel) (by decide +kernel)
theorem uw_1598 : (Jvm.Cond.selects "CoalHolesModel" ({ cls := "CoalHolesModel", name := "line", desc := "(II)I" } : Jvm.MethodName) ({ cls := "CoalHolesModel", name := "line", desc := "(II)I" } : Jvm.MethodName)) ∈ Uw := Uw_of 1598 (by decide +kernel) (by decide +kernel)
theorem uw_1599 : (Jvm.Cond.code ({ cls := "CoalHolesModel", name := "line", desc := "(II)I" } : Jvm.MethodName) prog_11_method_86_code (3 : Nat) (Option.some Jvm.ClassFile.FieldType.int)) ∈ Uw := Uw_of 1599 (by decide +kernel) (by decide +kernel)
theorem uw_1600 : (Jvm.Cond.methodLink "CoalHolesLaw" (116 : Nat) ({ cls := "CoalHolesModel", name := "hear", desc := "(IZ)Z" } : Jvm.MethodName)) ∈ Uw := Uw_of 1600 (by decide +kernel) (by decide +kernel)
theorem uw_1601 : (Jvm.Cond.instanceMethod ({ cls := "CoalHolesModel", name := "hear", desc := "(IZ)Z" } : Jvm.MethodName)) ∈ Uw := Uw_of 1601 (by decide +kernel) (by decide +kernel)
theorem uw_1602 : (Jvm.Cond.selects "CoalHolesModel" ({ cls := "CoalHolesModel", name := "hear", desc := "(IZ)Z" } : Jvm.MethodName) ({ cls := "CoalHolesModel", name := "hear", desc := "(IZ)Z" } : Jvm.MethodName)) ∈ Uw := Uw_of 1602 (by decide +kernel) (by decide +kernel)
theorem uw_1603 : (Jvm.Cond.code ({ cls := "CoalHolesModel", name := "hear", desc := "(IZ)Z" } : Jvm.MethodName) prog_11_method_87_code (3 : Nat) (Option.some Jvm.ClassFile.FieldType.boolean)) ∈ Uw := Uw_of 1603 (by decide +kernel) (by decide +kernel)
theorem uw_1604 : (Jvm.Cond.methodLink "CoalHolesLaw" (120 : Nat) ({ cls := "CoalHolesModel", name := "coals", desc := "(I)I" } : Jvm.MethodName)) ∈ Uw := Uw_of 1604 (by decide +kernel) (by decide +kernel)
theorem uw_1605 : (Jvm.Cond.instanceMethod ({ cls := "CoalHolesModel", name := "coals", desc := "(I)I" } : Jvm.MethodName)) ∈ Uw := Uw_of 1605 (by decide +kernel) (by decide +kernel)
theorem uw_1606 : (Jvm.Cond.selects "CoalHolesModel" ({ cls := "CoalHolesModel", name := "coals", desc := "(I)I" } : Jvm.MethodName) ({ cls := "CoalHolesModel", name := "coals", desc := "(I)I" } : Jvm.MethodName)) ∈ Uw := Uw_of 1606 (by decide +kernel) (by decide +kernel)
theorem uw_1607 : (Jvm.Cond.code ({ cls := "CoalHolesModel", name := "coals", desc := "(I)I" } : Jvm.MethodName) prog_11_method_90_code (6 : Nat) (Option.some Jvm.ClassFile.FieldType.int)) ∈ Uw := Uw_of 1607 (by decide +kernel) (by decide +kernel)
theorem uw_1608 : (Jvm.Cond.methodLink "CoalHolesModel" (468 : Nat) ({ cls := "CoalHolesModel", name := "isAsHeard", desc := "(I)Z" } : Jvm.MethodName)) ∈ Uw := Uw_of 1608 (by decide +kernel) (by decide +kernel)
theorem uw_1610 : (Jvm.Cond.instanceMethod ({ cls := "CoalHolesModel", name := "isAsHeard", desc := "(I)Z" } : Jvm.MethodName)) ∈ Uw := Uw_of 1610 (by decide +kernel) (by decide +kernel)
theorem uw_1611 : (Jvm.Cond.code ({ cls := "CoalHolesModel", name := "isAsHeard", desc := "(I)Z" } : Jvm.MethodName) prog_11_method_89_code (3 : Nat) (Option.some Jvm.ClassFile.FieldType.boolean)) ∈ Uw := Uw_of 1611 (by decide +kernel) (by decide +kernel)
theorem uw_1612 : (Jvm.Cond.methodLink "CoalHolesModel" (465 : Nat) ({ cls := "CoalHolesModel", name := "leavesSome", desc := "(II)Z" } : Jvm.MethodName)) ∈ Uw := Uw_of 1612 (by decide +kernel) (by decide +kernel)
theorem uw_1614 : (Jvm.Cond.instanceMethod ({ cls := "CoalHolesModel", name := "leavesSome", desc := "(II)Z" } : Jvm.MethodName)) ∈ Uw := Uw_of 1614 (by decide +kernel) (by decide +kernel)
theorem uw_1615 : (Jvm.Cond.code ({ cls := "CoalHolesModel", name := "leavesSome", desc := "(II)Z" } : Jvm.MethodName) prog_11_method_88_code (5 : Nat) (Option.some Jvm.ClassFile.FieldType.boolean)) ∈ Uw := Uw_of 1615 (by decide +kernel) (by decide +kernel)
theorem uw_1616 : (Jvm.Cond.methodLink "CoalHolesLaw" (124 : Nat) ({ cls := "CoalHolesModel", name := "ask", desc := "()I" } : Jvm.MethodName)) ∈ Uw := Uw_of 1616 (by decide +kernel) (by decide +kernel)
theorem uw_1617 : (Jvm.Cond.instanceMethod ({ cls := "CoalHolesModel", name := "ask", desc := "()I" } : Jvm.MethodName)) ∈ Uw := Uw_of 1617 (by decide +kernel) (by decide +kernel)
theorem uw_1618 : (Jvm.Cond.selects "CoalHolesModel" ({ cls := "CoalHolesModel", name := "ask", desc := "()I" } : Jvm.MethodName) ({ cls := "CoalHolesModel", name := "ask", desc := "()I" } : Jvm.MethodName)) ∈ Uw := Uw_of 1618 (by decide +kernel) (by decide +kernel)
theorem uw_1619 : (Jvm.Cond.code ({ cls := "CoalHolesModel", name := "ask", desc := "()I" } : Jvm.MethodName) prog_11_method_91_code (7 : Nat) (Option.some Jvm.ClassFile.FieldType.int)) ∈ Uw := Uw_of 1619 (by decide +kernel) (by decide +kernel)
theorem uw_1620 : (Jvm.Cond.methodLink "CoalHolesModel" (471 : Nat) ({ cls := "CoalHolesModel", name := "coals", desc := "(I)I" } : Jvm.MethodName)) ∈ Uw := Uw_of 1620 (by decide +kernel) (by decide +kernel)
theorem uw_1621 : (Jvm.Cond.methodLink "CoalHolesLaw" (128 : Nat) ({ cls := "CoalHolesModel", name := "colder", desc := "(II)I" } : Jvm.MethodName)) ∈ Uw := Uw_of 1621 (by decide +kernel) (by decide +kernel)
theorem uw_1622 : (Jvm.Cond.instanceMethod ({ cls := "CoalHolesModel", name := "colder", desc := "(II)I" } : Jvm.MethodName)) ∈ Uw := Uw_of 1622 (by decide +kernel) (by decide +kernel)
theorem uw_1623 : (Jvm.Cond.selects "CoalHolesModel" ({ cls := "CoalHolesModel", name := "colder", desc := "(II)I" } : Jvm.MethodName) ({ cls := "CoalHolesModel", name := "colder", desc := "(II)I" } : Jvm.MethodName)) ∈ Uw := Uw_of 1623 (by decide +kernel) (by decide +kernel)
theorem uw_1624 : (Jvm.Cond.code ({ cls := "CoalHolesModel", name := "colder", desc := "(II)I" } : Jvm.MethodName) prog_11_method_92_code (4 : Nat) (Option.some Jvm.ClassFile.FieldType.int)) ∈ Uw := Uw_of 1624 (by decide +kernel) (by decide +kernel)
theorem uw_1625 : (Jvm.Cond.methodLink "CoalHolesLaw" (134 : Nat) ({ cls := "CoalHolesModel", name := "rests", desc := "(IIII)I" } : Jvm.MethodName)) ∈ Uw := Uw_of 1625 (by decide +kernel) (by decide +kernel)
theorem uw_1626 : (Jvm.Cond.instanceMethod ({ cls := "CoalHolesModel", name := "rests", desc := "(IIII)I" } : Jvm.MethodName)) ∈ Uw := Uw_of 1626 (by decide +kernel) (by decide +kernel)
theorem uw_1627 : (Jvm.Cond.selects "CoalHolesModel" ({ cls := "CoalHolesModel", name := "rests", desc := "(IIII)I" } : Jvm.MethodName) ({ cls := "CoalHolesModel", name := "rests", desc := "(IIII)I" } : Jvm.MethodName)) ∈ Uw := Uw_of 1627 (by decide +kernel) (by decide +kernel)
theorem uw_1628 : (Jvm.Cond.code ({ cls := "CoalHolesModel", name := "rests", desc := "(IIII)I" } : Jvm.MethodName) prog_11_method_94_code (9 : Nat) (Option.some Jvm.ClassFile.FieldType.int)) ∈ Uw := Uw_of 1628 (by decide +kernel) (by decide +kernel)
theorem uw_1629 : (Jvm.Cond.methodLink "CoalHolesModel" (474 : Nat) ({ cls := "CoalHolesModel", name := "getsBy", desc := "(IIIII)I" } : Jvm.MethodName)) ∈ Uw := Uw_of 1629 (by decide +kernel) (by decide +kernel)
theorem uw_1630 : (Jvm.Cond.static ({ cls := "CoalHolesModel", name := "getsBy", desc := "(IIIII)I" } : Jvm.MethodName)) ∈ Uw := Uw_of 1630 (by decide +kernel) (by decide +kernel)
theorem uw_1631 : (Jvm.Cond.code ({ cls := "CoalHolesModel", name := "getsBy", desc := "(IIIII)I" } : Jvm.MethodName) prog_11_method_93_code (5 : Nat) (Option.some Jvm.ClassFile.FieldType.int)) ∈ Uw := Uw_of 1631 (by decide +kernel) (by decide +kernel)
theorem uw_1632 : (Jvm.Cond.methodLink "CoalHolesLaw" (142 : Nat) ({ cls := "CoalHolesModel", name := "winters", desc := "(III)I" } : Jvm.MethodName)) ∈ Uw := Uw_of 1632 (by decide +kernel) (by decide +kernel)
theorem uw_1633 : (Jvm.Cond.instanceMethod ({ cls := "CoalHolesModel", name := "winters", desc := "(III)I" } : Jvm.MethodName)) ∈ Uw := Uw_of 1633 (by decide +kernel) (by decide +kernel)
theorem uw_1634 : (Jvm.Cond.selects "CoalHolesModel" ({ cls := "CoalHolesModel", name := "winters", desc := "(III)I" } : Jvm.MethodName) ({ cls := "CoalHolesModel", name := "winters", desc := "(III)I" } : Jvm.MethodName)) ∈ Uw := Uw_of 1634 (by decide +kernel) (by decide +kernel)
theorem uw_1635 : (Jvm.Cond.code ({ cls := "CoalHolesModel", name := "winters", desc := "(III)I" } : Jvm.MethodName) prog_11_method_98_code (7 : Nat) (Option.some Jvm.ClassFile.FieldType.int)) ∈ Uw := Uw_of 1635 (by decide +kernel) (by decide +kernel)
theorem uw_1636 : (Jvm.Cond.methodLink "CoalHolesModel" (492 : Nat) ({ cls := "CoalHolesModel", name := "livesDay", desc := "()I" } : Jvm.MethodName)) ∈ Uw := Uw_of 1636 (by decide +kernel) (by decide +kernel)
theorem uw_1638 : (Jvm.Cond.instanceMethod ({ cls := "CoalHolesModel", name := "livesDay", desc := "()I" } : Jvm.MethodName)) ∈ Uw := Uw_of 1638 (by decide +kernel) (by decide +kernel)
theorem uw_1639 : (Jvm.Cond.code ({ cls := "CoalHolesModel", name := "livesDay", desc := "()I" } : Jvm.MethodName) prog_11_method_96_code (4 : Nat) (Option.some Jvm.ClassFile.FieldType.int)) ∈ Uw := Uw_of 1639 (by decide +kernel) (by decide +kernel)
theorem uw_1640 : (Jvm.Cond.methodLink "CoalHolesModel" (489 : Nat) ({ cls := "CoalHolesModel", name := "draws", desc := "(I)I" } : Jvm.MethodName)) ∈ Uw := Uw_of 1640 (by decide +kernel) (by decide +kernel)
theorem uw_1642 : (Jvm.Cond.instanceMethod ({ cls := "CoalHolesModel", name := "draws", desc := "(I)I" } : Jvm.MethodName)) ∈ Uw := Uw_of 1642 (by decide +kernel) (by decide +kernel)
theorem uw_1643 : (Jvm.Cond.code ({ cls := "CoalHolesModel", name := "draws", desc := "(I)I" } : Jvm.MethodName) prog_11_method_95_code (2 : Nat) (Option.some Jvm.ClassFile.FieldType.int)) ∈ Uw := Uw_of 1643 (by decide +kernel) (by decide +kernel)
theorem uw_1644 : (Jvm.Cond.constantLong "CoalHolesModel" (481 : Nat) (1103515245 : Int64)) ∈ Uw := Uw_of 1644 (by decide +kernel) (by decide +kernel)
theorem uw_1645 : (Jvm.Cond.constantLong "CoalHolesModel" (483 : Nat) (12345 : Int64)) ∈ Uw := Uw_of 1645 (by decide +kernel) (by decide +kernel)
theorem uw_1646 : (Jvm.Cond.constantLong "CoalHolesModel" (485 : Nat) (2147483648 : Int64)) ∈ Uw := Uw_of 1646 (by decide +kernel) (by decide +kernel)
theorem uw_1647 : (Jvm.Cond.constantLong "CoalHolesModel" (487 : Nat) (65536 : Int64)) ∈ Uw := Uw_of 1647 (by decide +kernel) (by decide +kernel)
theorem uw_1648 : (Jvm.Cond.methodLink "CoalHolesModel" (495 : Nat) ({ cls := "CoalHolesModel", name := "allCoal", desc := "()I" } : Jvm.MethodName)) ∈ Uw := Uw_of 1648 (by decide +kernel) (by decide +kernel)
theorem uw_1650 : (Jvm.Cond.instanceMethod ({ cls := "CoalHolesModel", name := "allCoal", desc := "()I" } : Jvm.MethodName)) ∈ Uw := Uw_of 1650 (by decide +kernel) (by decide +kernel)
theorem uw_1651 : (Jvm.Cond.code ({ cls := "CoalHolesModel", name := "allCoal", desc := "()I" } : Jvm.MethodName) prog_11_method_97_code (3 : Nat) (Option.some Jvm.ClassFile.FieldType.int)) ∈ Uw := Uw_of 1651 (by decide +kernel) (by decide +kernel)
theorem uw_1652 : (Jvm.Cond.methodLink "CoalHolesLaw" (146 : Nat) ({ cls := "CoalHolesModel", name := "mark", desc := "(IZ)Z" } : Jvm.MethodName)) ∈ Uw := Uw_of 1652 (by decide +kernel) (by decide +kernel)
theorem uw_1653 : (Jvm.Cond.instanceMethod ({ cls := "CoalHolesModel", name := "mark", desc := "(IZ)Z" } : Jvm.MethodName)) ∈ Uw := Uw_of 1653 (by decide +kernel) (by decide +kernel)
theorem uw_1654 : (Jvm.Cond.selects "CoalHolesModel" ({ cls := "CoalHolesModel", name := "mark", desc := "(IZ)Z" } : Jvm.MethodName) ({ cls := "CoalHolesModel", name := "mark", desc := "(IZ)Z" } : Jvm.MethodName)) ∈ Uw := Uw_of 1654 (by decide +kernel) (by decide +kernel)
theorem uw_1655 : (Jvm.Cond.code ({ cls := "CoalHolesModel", name := "mark", desc := "(IZ)Z" } : Jvm.MethodName) prog_11_method_99_code (5 : Nat) (Option.some Jvm.ClassFile.FieldType.boolean)) ∈ Uw := Uw_of 1655 (by decide +kernel) (by decide +kernel)
theorem uw_1656 : (Jvm.Cond.methodLink "CoalHolesModel" (498 : Nat) ({ cls := "CoalHolesModel", name := "laysHeard", desc := "(II)V" } : Jvm.MethodName)) ∈ Uw := Uw_of 1656 (by decide +kernel) (by decide +kernel)
theorem uw_1658 : (Jvm.Cond.instanceMethod ({ cls := "CoalHolesModel", name := "laysHeard", desc := "(II)V" } : Jvm.MethodName)) ∈ Uw := Uw_of 1658 (by decide +kernel) (by decide +kernel)
theorem uw_1659 : (Jvm.Cond.code ({ cls := "CoalHolesModel", name := "laysHeard", desc := "(II)V" } : Jvm.MethodName) prog_11_method_43_code (4 : Nat) (Option.none : Option Jvm.ClassFile.FieldType)) ∈ Uw := Uw_of 1659 (by decide +kernel) (by decide +kernel)
theorem uw_1660 : (Jvm.Cond.methodLink "CoalHolesLaw" (150 : Nat) ({ cls := "CoalHolesModel", name := "count", desc := "(I)I" } : Jvm.MethodName)) ∈ Uw := Uw_of 1660 (by decide +kernel) (by decide +kernel)
theorem uw_1661 : (Jvm.Cond.instanceMethod ({ cls := "CoalHolesModel", name := "count", desc := "(I)I" } : Jvm.MethodName)) ∈ Uw := Uw_of 1661 (by decide +kernel) (by decide +kernel)
theorem uw_1662 : (Jvm.Cond.selects "CoalHolesModel" ({ cls := "CoalHolesModel", name := "count", desc := "(I)I" } : Jvm.MethodName) ({ cls := "CoalHolesModel", name := "count", desc := "(I)I" } : Jvm.MethodName)) ∈ Uw := Uw_of 1662 (by decide +kernel) (by decide +kernel)
theorem uw_1663 : (Jvm.Cond.code ({ cls := "CoalHolesModel", name := "count", desc := "(I)I" } : Jvm.MethodName) prog_11_method_100_code (2 : Nat) (Option.some Jvm.ClassFile.FieldType.int)) ∈ Uw := Uw_of 1663 (by decide +kernel) (by decide +kernel)
theorem uw_1664 : (Jvm.Cond.constantLong "CoalHolesLaw" (19 : Nat) (4294967295 : Int64)) ∈ Uw := Uw_of 1664 (by decide +kernel) (by decide +kernel)
theorem uw_1679 : (Jvm.Cond.fieldLink "java/lang/String" (9 : Nat) "java/lang/String" "value" "[B") ∈ Uw := Uw_of 1679 (by decide +kernel) (by decide +kernel)
theorem uw_1680 : (Jvm.Cond.fieldLink "java/lang/String" (15 : Nat) "java/lang/String" "coder" "B") ∈ Uw := Uw_of 1680 (by decide +kernel) (by decide +kernel)
theorem us_0 : Cond.selects "CoalHoles$Terrace" (⟨"CoalHoles$Terrace", "settle", "()V"⟩ : MethodName) (⟨"CoalHoles$Terrace", "settle", "()V"⟩ : MethodName) ∈ Uw := Uw_sel 0 (by decide +kernel) (by decide +kernel)
theorem us_1 : Cond.selects "CoalHoles$Terrace" (⟨"CoalHoles$Terrace", "bitsOfKind", "(I)I"⟩ : MethodName) (⟨"CoalHoles$Terrace", "bitsOfKind", "(I)I"⟩ : MethodName) ∈ Uw := Uw_sel 1 (by decide +kernel) (by decide +kernel)
theorem us_2 : Cond.selects "CoalHoles$Terrace" (⟨"CoalHoles$Terrace", "clear", "()V"⟩ : MethodName) (⟨"CoalHoles$Terrace", "clear", "()V"⟩ : MethodName) ∈ Uw := Uw_sel 2 (by decide +kernel) (by decide +kernel)
theorem us_3 : Cond.selects "CoalHoles$Tape" (⟨"CoalHoles$Tape", "takeNumber", "()V"⟩ : MethodName) (⟨"CoalHoles$Tape", "takeNumber", "()V"⟩ : MethodName) ∈ Uw := Uw_sel 3 (by decide +kernel) (by decide +kernel)
theorem us_4 : Cond.selects "CoalHoles$Tape" (⟨"CoalHoles$Tape", "takeWord", "()V"⟩ : MethodName) (⟨"CoalHoles$Tape", "takeWord", "()V"⟩ : MethodName) ∈ Uw := Uw_sel 4 (by decide +kernel) (by decide +kernel)
theorem us_5 : Cond.selects "CoalHoles$Tape" (⟨"CoalHoles$Tape", "wordToken", "()I"⟩ : MethodName) (⟨"CoalHoles$Tape", "wordToken", "()I"⟩ : MethodName) ∈ Uw := Uw_sel 5 (by decide +kernel) (by decide +kernel)
theorem us_6 : Cond.selects "CoalHoles$Terrace" (⟨"CoalHoles$Terrace", "readHole", "(LCoalHoles$Tape;)V"⟩ : MethodName) (⟨"CoalHoles$Terrace", "readHole", "(LCoalHoles$Tape;)V"⟩ : MethodName) ∈ Uw := Uw_sel 6 (by decide +kernel) (by decide +kernel)
theorem us_7 : Cond.selects "CoalHoles$Terrace" (⟨"CoalHoles$Terrace", "readNewName", "(LCoalHoles$Tape;)J"⟩ : MethodName) (⟨"CoalHoles$Terrace", "readNewName", "(LCoalHoles$Tape;)J"⟩ : MethodName) ∈ Uw := Uw_sel 7 (by decide +kernel) (by decide +kernel)
theorem us_8 : Cond.selects "CoalHoles$Terrace" (⟨"CoalHoles$Terrace", "readWall", "(LCoalHoles$Tape;)V"⟩ : MethodName) (⟨"CoalHoles$Terrace", "readWall", "(LCoalHoles$Tape;)V"⟩ : MethodName) ∈ Uw := Uw_sel 8 (by decide +kernel) (by decide +kernel)
theorem us_9 : Cond.selects "CoalHoles$Terrace" (⟨"CoalHoles$Terrace", "readGuest", "(LCoalHoles$Tape;)V"⟩ : MethodName) (⟨"CoalHoles$Terrace", "readGuest", "(LCoalHoles$Tape;)V"⟩ : MethodName) ∈ Uw := Uw_sel 9 (by decide +kernel) (by decide +kernel)
theorem us_10 : Cond.selects "CoalHoles$Terrace" (⟨"CoalHoles$Terrace", "readWar", "(LCoalHoles$Tape;)V"⟩ : MethodName) (⟨"CoalHoles$Terrace", "readWar", "(LCoalHoles$Tape;)V"⟩ : MethodName) ∈ Uw := Uw_sel 10 (by decide +kernel) (by decide +kernel)
theorem us_11 : Cond.selects "CoalHoles$Terrace" (⟨"CoalHoles$Terrace", "readCold", "(LCoalHoles$Tape;)V"⟩ : MethodName) (⟨"CoalHoles$Terrace", "readCold", "(LCoalHoles$Tape;)V"⟩ : MethodName) ∈ Uw := Uw_sel 11 (by decide +kernel) (by decide +kernel)
theorem us_12 : Cond.selects "CoalHoles$Terrace" (⟨"CoalHoles$Terrace", "readSack", "(LCoalHoles$Tape;)V"⟩ : MethodName) (⟨"CoalHoles$Terrace", "readSack", "(LCoalHoles$Tape;)V"⟩ : MethodName) ∈ Uw := Uw_sel 12 (by decide +kernel) (by decide +kernel)
theorem us_13 : Cond.selects "CoalHoles$Terrace" (⟨"CoalHoles$Terrace", "readTakes", "(LCoalHoles$Tape;)V"⟩ : MethodName) (⟨"CoalHoles$Terrace", "readTakes", "(LCoalHoles$Tape;)V"⟩ : MethodName) ∈ Uw := Uw_sel 13 (by decide +kernel) (by decide +kernel)
theorem us_14 : Cond.selects "CoalHoles$Law" (⟨"CoalHoles$Law", "readPart", "(LCoalHoles$Tape;)Z"⟩ : MethodName) (⟨"CoalHoles$Law", "readPart", "(LCoalHoles$Tape;)Z"⟩ : MethodName) ∈ Uw := Uw_sel 14 (by decide +kernel) (by decide +kernel)
theorem us_15 : Cond.selects "CoalHoles$Law" (⟨"CoalHoles$Law", "emit", "(I)V"⟩ : MethodName) (⟨"CoalHoles$Law", "emit", "(I)V"⟩ : MethodName) ∈ Uw := Uw_sel 15 (by decide +kernel) (by decide +kernel)
theorem us_16 : Cond.selects "CoalHoles$Law" (⟨"CoalHoles$Law", "closeNots", "()V"⟩ : MethodName) (⟨"CoalHoles$Law", "closeNots", "()V"⟩ : MethodName) ∈ Uw := Uw_sel 16 (by decide +kernel) (by decide +kernel)
theorem us_17 : Cond.selects "CoalHoles$Law" (⟨"CoalHoles$Law", "push", "(I)V"⟩ : MethodName) (⟨"CoalHoles$Law", "push", "(I)V"⟩ : MethodName) ∈ Uw := Uw_sel 17 (by decide +kernel) (by decide +kernel)
theorem us_18 : Cond.selects "CoalHoles$Law" (⟨"CoalHoles$Law", "closeBracket", "(LCoalHoles$Tape;)V"⟩ : MethodName) (⟨"CoalHoles$Law", "closeBracket", "(LCoalHoles$Tape;)V"⟩ : MethodName) ∈ Uw := Uw_sel 18 (by decide +kernel) (by decide +kernel)
theorem us_19 : Cond.selects "CoalHoles$Law" (⟨"CoalHoles$Law", "emitDownTo", "(I)V"⟩ : MethodName) (⟨"CoalHoles$Law", "emitDownTo", "(I)V"⟩ : MethodName) ∈ Uw := Uw_sel 19 (by decide +kernel) (by decide +kernel)
theorem us_20 : Cond.selects "CoalHoles$Law" (⟨"CoalHoles$Law", "pop", "()I"⟩ : MethodName) (⟨"CoalHoles$Law", "pop", "()I"⟩ : MethodName) ∈ Uw := Uw_sel 20 (by decide +kernel) (by decide +kernel)
theorem us_21 : Cond.selects "CoalHoles$Law" (⟨"CoalHoles$Law", "readOperator", "(LCoalHoles$Tape;)V"⟩ : MethodName) (⟨"CoalHoles$Law", "readOperator", "(LCoalHoles$Tape;)V"⟩ : MethodName) ∈ Uw := Uw_sel 21 (by decide +kernel) (by decide +kernel)
theorem us_22 : Cond.selects "CoalHoles$Winter" (⟨"CoalHoles$Winter", "readLine", "(LCoalHoles$Tape;LCoalHoles$Terrace;)V"⟩ : MethodName) (⟨"CoalHoles$Winter", "readLine", "(LCoalHoles$Tape;LCoalHoles$Terrace;)V"⟩ : MethodName) ∈ Uw := Uw_sel 22 (by decide +kernel) (by decide +kernel)
theorem us_23 : Cond.selects "CoalHoles" (⟨"CoalHoles", "remember", "()V"⟩ : MethodName) (⟨"CoalHoles", "remember", "()V"⟩ : MethodName) ∈ Uw := Uw_sel 23 (by decide +kernel) (by decide +kernel)
theorem us_24 : Cond.selects "CoalHoles$Winter" (⟨"CoalHoles$Winter", "follow", "(LCoalHoles$Terrace;LCoalHoles$State;I)Z"⟩ : MethodName) (⟨"CoalHoles$Winter", "follow", "(LCoalHoles$Terrace;LCoalHoles$State;I)Z"⟩ : MethodName) ∈ Uw := Uw_sel 24 (by decide +kernel) (by decide +kernel)
theorem us_25 : Cond.selects "CoalHoles$Lodgings" (⟨"CoalHoles$Lodgings", "learnLaw", "(LCoalHoles$Terrace;LCoalHoles$State;)V"⟩ : MethodName) (⟨"CoalHoles$Lodgings", "learnLaw", "(LCoalHoles$Terrace;LCoalHoles$State;)V"⟩ : MethodName) ∈ Uw := Uw_sel 25 (by decide +kernel) (by decide +kernel)
theorem us_26 : Cond.selects "CoalHoles$Lodgings" (⟨"CoalHoles$Lodgings", "isLodged", "(I)Z"⟩ : MethodName) (⟨"CoalHoles$Lodgings", "isLodged", "(I)Z"⟩ : MethodName) ∈ Uw := Uw_sel 26 (by decide +kernel) (by decide +kernel)
theorem us_27 : Cond.selects "CoalHoles$Lodgings" (⟨"CoalHoles$Lodgings", "leastCost", "(LCoalHoles$Terrace;LCoalHoles$State;I)I"⟩ : MethodName) (⟨"CoalHoles$Lodgings", "leastCost", "(LCoalHoles$Terrace;LCoalHoles$State;I)I"⟩ : MethodName) ∈ Uw := Uw_sel 27 (by decide +kernel) (by decide +kernel)
theorem us_28 : Cond.selects "CoalHoles$Lodgings" (⟨"CoalHoles$Lodgings", "costOf", "(LCoalHoles$Terrace;II)I"⟩ : MethodName) (⟨"CoalHoles$Lodgings", "costOf", "(LCoalHoles$Terrace;II)I"⟩ : MethodName) ∈ Uw := Uw_sel 28 (by decide +kernel) (by decide +kernel)
theorem us_29 : Cond.selects "CoalHoles$Lodgings" (⟨"CoalHoles$Lodgings", "lawfulFromNow", "(LCoalHoles$Terrace;LCoalHoles$State;II)I"⟩ : MethodName) (⟨"CoalHoles$Lodgings", "lawfulFromNow", "(LCoalHoles$Terrace;LCoalHoles$State;II)I"⟩ : MethodName) ∈ Uw := Uw_sel 29 (by decide +kernel) (by decide +kernel)
theorem us_30 : Cond.selects "CoalHoles$Lodgings" (⟨"CoalHoles$Lodgings", "keepRow", "(II)V"⟩ : MethodName) (⟨"CoalHoles$Lodgings", "keepRow", "(II)V"⟩ : MethodName) ∈ Uw := Uw_sel 30 (by decide +kernel) (by decide +kernel)
theorem us_31 : Cond.selects "CoalHoles$Lodgings" (⟨"CoalHoles$Lodgings", "isTaken", "(LCoalHoles$Terrace;LCoalHoles$State;II)Z"⟩ : MethodName) (⟨"CoalHoles$Lodgings", "isTaken", "(LCoalHoles$Terrace;LCoalHoles$State;II)Z"⟩ : MethodName) ∈ Uw := Uw_sel 31 (by decide +kernel) (by decide +kernel)
theorem us_32 : Cond.selects "CoalHoles" (⟨"CoalHoles", "goByDraws", "()I"⟩ : MethodName) (⟨"CoalHoles", "goByDraws", "()I"⟩ : MethodName) ∈ Uw := Uw_sel 32 (by decide +kernel) (by decide +kernel)
theorem us_33 : Cond.selects "CoalHoles" (⟨"CoalHoles", "drawBelow", "(I)I"⟩ : MethodName) (⟨"CoalHoles", "drawBelow", "(I)I"⟩ : MethodName) ∈ Uw := Uw_sel 33 (by decide +kernel) (by decide +kernel)
theorem us_34 : Cond.selects "java/lang/Throwable" (⟨"java/lang/Throwable", "fillInStackTrace", "(I)Ljava/lang/Throwable;"⟩ : MethodName) (⟨"java/lang/Throwable", "fillInStackTrace", "(I)Ljava/lang/Throwable;"⟩ : MethodName) ∈ Uw := Uw_sel 34 (by decide +kernel) (by decide +kernel)
theorem us_35 : Cond.selects "CoalHolesModel" (⟨"CoalHolesModel", "usual", "(I)V"⟩ : MethodName) (⟨"CoalHolesModel", "usual", "(I)V"⟩ : MethodName) ∈ Uw := Uw_sel 35 (by decide +kernel) (by decide +kernel)
theorem us_36 : Cond.selects "CoalHolesModel" (⟨"CoalHolesModel", "readsAll", "()Z"⟩ : MethodName) (⟨"CoalHolesModel", "readsAll", "()Z"⟩ : MethodName) ∈ Uw := Uw_sel 36 (by decide +kernel) (by decide +kernel)
theorem us_37 : Cond.selects "CoalHolesModel" (⟨"CoalHolesModel", "begins", "()V"⟩ : MethodName) (⟨"CoalHolesModel", "begins", "()V"⟩ : MethodName) ∈ Uw := Uw_sel 37 (by decide +kernel) (by decide +kernel)
theorem us_38 : Cond.selects "CoalHolesModel" (⟨"CoalHolesModel", "nextToken", "()V"⟩ : MethodName) (⟨"CoalHolesModel", "nextToken", "()V"⟩ : MethodName) ∈ Uw := Uw_sel 38 (by decide +kernel) (by decide +kernel)
theorem us_39 : Cond.selects "CoalHolesModel" (⟨"CoalHolesModel", "signAt", "(I)I"⟩ : MethodName) (⟨"CoalHolesModel", "signAt", "(I)I"⟩ : MethodName) ∈ Uw := Uw_sel 39 (by decide +kernel) (by decide +kernel)
theorem us_40 : Cond.selects "CoalHolesModel" (⟨"CoalHolesModel", "isWord", "(J)Z"⟩ : MethodName) (⟨"CoalHolesModel", "isWord", "(J)Z"⟩ : MethodName) ∈ Uw := Uw_sel 40 (by decide +kernel) (by decide +kernel)
theorem us_41 : Cond.selects "CoalHolesModel" (⟨"CoalHolesModel", "readsHole", "()Z"⟩ : MethodName) (⟨"CoalHolesModel", "readsHole", "()Z"⟩ : MethodName) ∈ Uw := Uw_sel 41 (by decide +kernel) (by decide +kernel)
theorem us_42 : Cond.selects "CoalHolesModel" (⟨"CoalHolesModel", "fails", "(I)Z"⟩ : MethodName) (⟨"CoalHolesModel", "fails", "(I)Z"⟩ : MethodName) ∈ Uw := Uw_sel 42 (by decide +kernel) (by decide +kernel)
theorem us_43 : Cond.selects "CoalHolesModel" (⟨"CoalHolesModel", "needsNew", "()Z"⟩ : MethodName) (⟨"CoalHolesModel", "needsNew", "()Z"⟩ : MethodName) ∈ Uw := Uw_sel 43 (by decide +kernel) (by decide +kernel)
theorem us_44 : Cond.selects "CoalHolesModel" (⟨"CoalHolesModel", "isKept", "()Z"⟩ : MethodName) (⟨"CoalHolesModel", "isKept", "()Z"⟩ : MethodName) ∈ Uw := Uw_sel 44 (by decide +kernel) (by decide +kernel)
theorem us_45 : Cond.selects "CoalHolesModel" (⟨"CoalHolesModel", "holeNamed", "(I)I"⟩ : MethodName) (⟨"CoalHolesModel", "holeNamed", "(I)I"⟩ : MethodName) ∈ Uw := Uw_sel 45 (by decide +kernel) (by decide +kernel)
theorem us_46 : Cond.selects "CoalHolesModel" (⟨"CoalHolesModel", "guestNamed", "(I)I"⟩ : MethodName) (⟨"CoalHolesModel", "guestNamed", "(I)I"⟩ : MethodName) ∈ Uw := Uw_sel 46 (by decide +kernel) (by decide +kernel)
theorem us_47 : Cond.selects "CoalHolesModel" (⟨"CoalHolesModel", "needsBoth", "(JII)Z"⟩ : MethodName) (⟨"CoalHolesModel", "needsBoth", "(JII)Z"⟩ : MethodName) ∈ Uw := Uw_sel 47 (by decide +kernel) (by decide +kernel)
theorem us_48 : Cond.selects "CoalHolesModel" (⟨"CoalHolesModel", "needsNumber", "(II)Z"⟩ : MethodName) (⟨"CoalHolesModel", "needsNumber", "(II)Z"⟩ : MethodName) ∈ Uw := Uw_sel 48 (by decide +kernel) (by decide +kernel)
theorem us_49 : Cond.selects "CoalHolesModel" (⟨"CoalHolesModel", "closes", "()Z"⟩ : MethodName) (⟨"CoalHolesModel", "closes", "()Z"⟩ : MethodName) ∈ Uw := Uw_sel 49 (by decide +kernel) (by decide +kernel)
theorem us_50 : Cond.selects "CoalHolesModel" (⟨"CoalHolesModel", "isSign", "(I)Z"⟩ : MethodName) (⟨"CoalHolesModel", "isSign", "(I)Z"⟩ : MethodName) ∈ Uw := Uw_sel 50 (by decide +kernel) (by decide +kernel)
theorem us_51 : Cond.selects "CoalHolesModel" (⟨"CoalHolesModel", "readsWall", "()Z"⟩ : MethodName) (⟨"CoalHolesModel", "readsWall", "()Z"⟩ : MethodName) ∈ Uw := Uw_sel 51 (by decide +kernel) (by decide +kernel)
theorem us_52 : Cond.selects "CoalHolesModel" (⟨"CoalHolesModel", "needsHole", "(I)Z"⟩ : MethodName) (⟨"CoalHolesModel", "needsHole", "(I)Z"⟩ : MethodName) ∈ Uw := Uw_sel 52 (by decide +kernel) (by decide +kernel)
theorem us_53 : Cond.selects "CoalHolesModel" (⟨"CoalHolesModel", "readsGuest", "()Z"⟩ : MethodName) (⟨"CoalHolesModel", "readsGuest", "()Z"⟩ : MethodName) ∈ Uw := Uw_sel 53 (by decide +kernel) (by decide +kernel)
theorem us_54 : Cond.selects "CoalHolesModel" (⟨"CoalHolesModel", "readsWar", "()Z"⟩ : MethodName) (⟨"CoalHolesModel", "readsWar", "()Z"⟩ : MethodName) ∈ Uw := Uw_sel 54 (by decide +kernel) (by decide +kernel)
theorem us_55 : Cond.selects "CoalHolesModel" (⟨"CoalHolesModel", "readsCold", "()Z"⟩ : MethodName) (⟨"CoalHolesModel", "readsCold", "()Z"⟩ : MethodName) ∈ Uw := Uw_sel 55 (by decide +kernel) (by decide +kernel)
theorem us_56 : Cond.selects "CoalHolesModel" (⟨"CoalHolesModel", "readsSack", "()Z"⟩ : MethodName) (⟨"CoalHolesModel", "readsSack", "()Z"⟩ : MethodName) ∈ Uw := Uw_sel 56 (by decide +kernel) (by decide +kernel)
theorem us_57 : Cond.selects "CoalHolesModel" (⟨"CoalHolesModel", "readsTakes", "()Z"⟩ : MethodName) (⟨"CoalHolesModel", "readsTakes", "()Z"⟩ : MethodName) ∈ Uw := Uw_sel 57 (by decide +kernel) (by decide +kernel)
theorem us_58 : Cond.selects "CoalHolesModel" (⟨"CoalHolesModel", "reads", "()Z"⟩ : MethodName) (⟨"CoalHolesModel", "reads", "()Z"⟩ : MethodName) ∈ Uw := Uw_sel 58 (by decide +kernel) (by decide +kernel)
theorem us_59 : Cond.selects "CoalHolesModel" (⟨"CoalHolesModel", "fact", "()I"⟩ : MethodName) (⟨"CoalHolesModel", "fact", "()I"⟩ : MethodName) ∈ Uw := Uw_sel 59 (by decide +kernel) (by decide +kernel)
theorem us_60 : Cond.selects "CoalHolesModel" (⟨"CoalHolesModel", "puts", "(I)V"⟩ : MethodName) (⟨"CoalHolesModel", "puts", "(I)V"⟩ : MethodName) ∈ Uw := Uw_sel 60 (by decide +kernel) (by decide +kernel)
theorem us_61 : Cond.selects "CoalHolesModel" (⟨"CoalHolesModel", "lays", "()V"⟩ : MethodName) (⟨"CoalHolesModel", "lays", "()V"⟩ : MethodName) ∈ Uw := Uw_sel 61 (by decide +kernel) (by decide +kernel)
theorem us_62 : Cond.selects "CoalHolesModel" (⟨"CoalHolesModel", "fresh0", "()V"⟩ : MethodName) (⟨"CoalHolesModel", "fresh0", "()V"⟩ : MethodName) ∈ Uw := Uw_sel 62 (by decide +kernel) (by decide +kernel)
theorem us_63 : Cond.selects "CoalHolesModel" (⟨"CoalHolesModel", "readsLine", "()Z"⟩ : MethodName) (⟨"CoalHolesModel", "readsLine", "()Z"⟩ : MethodName) ∈ Uw := Uw_sel 63 (by decide +kernel) (by decide +kernel)
theorem us_64 : Cond.selects "CoalHolesModel" (⟨"CoalHolesModel", "needsGuest", "()Z"⟩ : MethodName) (⟨"CoalHolesModel", "needsGuest", "()Z"⟩ : MethodName) ∈ Uw := Uw_sel 64 (by decide +kernel) (by decide +kernel)
theorem us_65 : Cond.selects "CoalHolesModel" (⟨"CoalHolesModel", "laysLines", "(II)V"⟩ : MethodName) (⟨"CoalHolesModel", "laysLines", "(II)V"⟩ : MethodName) ∈ Uw := Uw_sel 65 (by decide +kernel) (by decide +kernel)
theorem us_66 : Cond.selects "CoalHolesModel" (⟨"CoalHolesModel", "isHole", "(I)Z"⟩ : MethodName) (⟨"CoalHolesModel", "isHole", "(I)Z"⟩ : MethodName) ∈ Uw := Uw_sel 66 (by decide +kernel) (by decide +kernel)
theorem us_67 : Cond.selects "CoalHolesModel" (⟨"CoalHolesModel", "insideOf", "(I)I"⟩ : MethodName) (⟨"CoalHolesModel", "insideOf", "(I)I"⟩ : MethodName) ∈ Uw := Uw_sel 67 (by decide +kernel) (by decide +kernel)
theorem us_68 : Cond.selects "CoalHolesModel" (⟨"CoalHolesModel", "isTakenBy", "(II)Z"⟩ : MethodName) (⟨"CoalHolesModel", "isTakenBy", "(II)Z"⟩ : MethodName) ∈ Uw := Uw_sel 68 (by decide +kernel) (by decide +kernel)
theorem us_69 : Cond.selects "CoalHolesModel" (⟨"CoalHolesModel", "foesIn", "(II)I"⟩ : MethodName) (⟨"CoalHolesModel", "foesIn", "(II)I"⟩ : MethodName) ∈ Uw := Uw_sel 69 (by decide +kernel) (by decide +kernel)
theorem us_70 : Cond.selects "CoalHolesModel" (⟨"CoalHolesModel", "areAtWar", "(II)Z"⟩ : MethodName) (⟨"CoalHolesModel", "areAtWar", "(II)Z"⟩ : MethodName) ∈ Uw := Uw_sel 70 (by decide +kernel) (by decide +kernel)
theorem us_71 : Cond.selects "CoalHolesModel" (⟨"CoalHolesModel", "worked", "(I)I"⟩ : MethodName) (⟨"CoalHolesModel", "worked", "(I)I"⟩ : MethodName) ∈ Uw := Uw_sel 71 (by decide +kernel) (by decide +kernel)
theorem us_72 : Cond.selects "CoalHolesModel" (⟨"CoalHolesModel", "opens", "(I)V"⟩ : MethodName) (⟨"CoalHolesModel", "opens", "(I)V"⟩ : MethodName) ∈ Uw := Uw_sel 72 (by decide +kernel) (by decide +kernel)
theorem us_73 : Cond.selects "CoalHolesModel" (⟨"CoalHolesModel", "sums", "(I)V"⟩ : MethodName) (⟨"CoalHolesModel", "sums", "(I)V"⟩ : MethodName) ∈ Uw := Uw_sel 73 (by decide +kernel) (by decide +kernel)
theorem us_74 : Cond.selects "CoalHolesModel" (⟨"CoalHolesModel", "tests", "(I)V"⟩ : MethodName) (⟨"CoalHolesModel", "tests", "(I)V"⟩ : MethodName) ∈ Uw := Uw_sel 74 (by decide +kernel) (by decide +kernel)
theorem us_75 : Cond.selects "CoalHolesModel" (⟨"CoalHolesModel", "isGuest", "(I)Z"⟩ : MethodName) (⟨"CoalHolesModel", "isGuest", "(I)Z"⟩ : MethodName) ∈ Uw := Uw_sel 75 (by decide +kernel) (by decide +kernel)
theorem us_76 : Cond.selects "CoalHolesModel" (⟨"CoalHolesModel", "isSeized", "(I)Z"⟩ : MethodName) (⟨"CoalHolesModel", "isSeized", "(I)Z"⟩ : MethodName) ∈ Uw := Uw_sel 76 (by decide +kernel) (by decide +kernel)
theorem us_77 : Cond.selects "CoalHolesModel" (⟨"CoalHolesModel", "foesOf", "(I)I"⟩ : MethodName) (⟨"CoalHolesModel", "foesOf", "(I)I"⟩ : MethodName) ∈ Uw := Uw_sel 77 (by decide +kernel) (by decide +kernel)
theorem us_78 : Cond.selects "CoalHolesModel" (⟨"CoalHolesModel", "outsiders", "()I"⟩ : MethodName) (⟨"CoalHolesModel", "outsiders", "()I"⟩ : MethodName) ∈ Uw := Uw_sel 78 (by decide +kernel) (by decide +kernel)
theorem us_79 : Cond.selects "CoalHolesModel" (⟨"CoalHolesModel", "isOutside", "(I)Z"⟩ : MethodName) (⟨"CoalHolesModel", "isOutside", "(I)Z"⟩ : MethodName) ∈ Uw := Uw_sel 79 (by decide +kernel) (by decide +kernel)
theorem us_80 : Cond.selects "CoalHolesModel" (⟨"CoalHolesModel", "canDown", "(II)Z"⟩ : MethodName) (⟨"CoalHolesModel", "canDown", "(II)Z"⟩ : MethodName) ∈ Uw := Uw_sel 80 (by decide +kernel) (by decide +kernel)
theorem us_81 : Cond.selects "CoalHolesModel" (⟨"CoalHolesModel", "keeps", "()V"⟩ : MethodName) (⟨"CoalHolesModel", "keeps", "()V"⟩ : MethodName) ∈ Uw := Uw_sel 81 (by decide +kernel) (by decide +kernel)
theorem us_82 : Cond.selects "CoalHolesModel" (⟨"CoalHolesModel", "canCross", "(II)Z"⟩ : MethodName) (⟨"CoalHolesModel", "canCross", "(II)Z"⟩ : MethodName) ∈ Uw := Uw_sel 82 (by decide +kernel) (by decide +kernel)
theorem us_83 : Cond.selects "CoalHolesModel" (⟨"CoalHolesModel", "brings", "(I)V"⟩ : MethodName) (⟨"CoalHolesModel", "brings", "(I)V"⟩ : MethodName) ∈ Uw := Uw_sel 83 (by decide +kernel) (by decide +kernel)
theorem us_84 : Cond.selects "CoalHolesModel" (⟨"CoalHolesModel", "passes", "()I"⟩ : MethodName) (⟨"CoalHolesModel", "passes", "()I"⟩ : MethodName) ∈ Uw := Uw_sel 84 (by decide +kernel) (by decide +kernel)
theorem us_85 : Cond.selects "CoalHolesModel" (⟨"CoalHolesModel", "coldOf", "(I)I"⟩ : MethodName) (⟨"CoalHolesModel", "coldOf", "(I)I"⟩ : MethodName) ∈ Uw := Uw_sel 85 (by decide +kernel) (by decide +kernel)
theorem us_86 : Cond.selects "CoalHolesModel" (⟨"CoalHolesModel", "goes", "(I)Z"⟩ : MethodName) (⟨"CoalHolesModel", "goes", "(I)Z"⟩ : MethodName) ∈ Uw := Uw_sel 86 (by decide +kernel) (by decide +kernel)
theorem us_87 : Cond.selects "CoalHolesModel" (⟨"CoalHolesModel", "emptyIn", "(II)I"⟩ : MethodName) (⟨"CoalHolesModel", "emptyIn", "(II)I"⟩ : MethodName) ∈ Uw := Uw_sel 87 (by decide +kernel) (by decide +kernel)
theorem us_88 : Cond.selects "CoalHolesModel" (⟨"CoalHolesModel", "safeFor", "(I)I"⟩ : MethodName) (⟨"CoalHolesModel", "safeFor", "(I)I"⟩ : MethodName) ∈ Uw := Uw_sel 88 (by decide +kernel) (by decide +kernel)
theorem us_89 : Cond.selects "CoalHolesModel" (⟨"CoalHolesModel", "stocks", "(III)V"⟩ : MethodName) (⟨"CoalHolesModel", "stocks", "(III)V"⟩ : MethodName) ∈ Uw := Uw_sel 89 (by decide +kernel) (by decide +kernel)
theorem us_90 : Cond.selects "CoalHolesModel" (⟨"CoalHolesModel", "goesOn", "(I)V"⟩ : MethodName) (⟨"CoalHolesModel", "goesOn", "(I)V"⟩ : MethodName) ∈ Uw := Uw_sel 90 (by decide +kernel) (by decide +kernel)
theorem us_91 : Cond.selects "CoalHolesModel" (⟨"CoalHolesModel", "lodges", "(II)V"⟩ : MethodName) (⟨"CoalHolesModel", "lodges", "(II)V"⟩ : MethodName) ∈ Uw := Uw_sel 91 (by decide +kernel) (by decide +kernel)
theorem us_92 : Cond.selects "CoalHolesModel" (⟨"CoalHolesModel", "isAsHeard", "(I)Z"⟩ : MethodName) (⟨"CoalHolesModel", "isAsHeard", "(I)Z"⟩ : MethodName) ∈ Uw := Uw_sel 92 (by decide +kernel) (by decide +kernel)
theorem us_93 : Cond.selects "CoalHolesModel" (⟨"CoalHolesModel", "leavesSome", "(II)Z"⟩ : MethodName) (⟨"CoalHolesModel", "leavesSome", "(II)Z"⟩ : MethodName) ∈ Uw := Uw_sel 93 (by decide +kernel) (by decide +kernel)
theorem us_94 : Cond.selects "CoalHolesModel" (⟨"CoalHolesModel", "livesDay", "()I"⟩ : MethodName) (⟨"CoalHolesModel", "livesDay", "()I"⟩ : MethodName) ∈ Uw := Uw_sel 94 (by decide +kernel) (by decide +kernel)
theorem us_95 : Cond.selects "CoalHolesModel" (⟨"CoalHolesModel", "draws", "(I)I"⟩ : MethodName) (⟨"CoalHolesModel", "draws", "(I)I"⟩ : MethodName) ∈ Uw := Uw_sel 95 (by decide +kernel) (by decide +kernel)
theorem us_96 : Cond.selects "CoalHolesModel" (⟨"CoalHolesModel", "allCoal", "()I"⟩ : MethodName) (⟨"CoalHolesModel", "allCoal", "()I"⟩ : MethodName) ∈ Uw := Uw_sel 96 (by decide +kernel) (by decide +kernel)
theorem us_97 : Cond.selects "CoalHolesModel" (⟨"CoalHolesModel", "laysHeard", "(II)V"⟩ : MethodName) (⟨"CoalHolesModel", "laysHeard", "(II)V"⟩ : MethodName) ∈ Uw := Uw_sel 97 (by decide +kernel) (by decide +kernel)
theorem un_129 : (Jvm.Cond.methodLinkNest "CoalHoles" (18 : Nat) ({ cls := "CoalHoles$State", name := "<init>", desc := "()V" } : Jvm.MethodName) "CoalHoles") ∈ lw_tbl := List.mem_append_right _ (List.mem_of_getElem? (i := 129) (by decide +kernel))
theorem un_161 : (Jvm.Cond.methodLinkNest "CoalHoles" (28 : Nat) ({ cls := "CoalHoles$Heard", name := "<init>", desc := "()V" } : Jvm.MethodName) "CoalHoles") ∈ lw_tbl := List.mem_append_right _ (List.mem_of_getElem? (i := 161) (by decide +kernel))
theorem un_187 : (Jvm.Cond.methodLinkNest "CoalHoles" (35 : Nat) ({ cls := "CoalHoles$Lodgings", name := "<init>", desc := "()V" } : Jvm.MethodName) "CoalHoles") ∈ lw_tbl := List.mem_append_right _ (List.mem_of_getElem? (i := 187) (by decide +kernel))
theorem un_229 : (Jvm.Cond.methodLinkNest "CoalHoles$Terrace" (48 : Nat) ({ cls := "CoalHoles$Law", name := "<init>", desc := "()V" } : Jvm.MethodName) "CoalHoles") ∈ lw_tbl := List.mem_append_right _ (List.mem_of_getElem? (i := 229) (by decide +kernel))
theorem un_343 : (Jvm.Cond.methodLinkNest "CoalHoles" (62 : Nat) ({ cls := "CoalHoles$Winter", name := "<init>", desc := "()V" } : Jvm.MethodName) "CoalHoles") ∈ lw_tbl := List.mem_append_right _ (List.mem_of_getElem? (i := 343) (by decide +kernel))
theorem un_362 : (Jvm.Cond.methodLinkNest "CoalHoles" (70 : Nat) ({ cls := "CoalHoles$Mark", name := "<init>", desc := "()V" } : Jvm.MethodName) "CoalHoles") ∈ lw_tbl := List.mem_append_right _ (List.mem_of_getElem? (i := 362) (by decide +kernel))
theorem un_367 : (Jvm.Cond.methodLinkNest "CoalHoles$Mark" (9 : Nat) ({ cls := "CoalHoles$State", name := "<init>", desc := "()V" } : Jvm.MethodName) "CoalHoles") ∈ lw_tbl := List.mem_append_right _ (List.mem_of_getElem? (i := 367) (by decide +kernel))
theorem un_369 : (Jvm.Cond.methodLinkNest "CoalHoles$Mark" (18 : Nat) ({ cls := "CoalHoles$Winter", name := "<init>", desc := "()V" } : Jvm.MethodName) "CoalHoles") ∈ lw_tbl := List.mem_append_right _ (List.mem_of_getElem? (i := 369) (by decide +kernel))
theorem un_371 : (Jvm.Cond.methodLinkNest "CoalHoles$Mark" (25 : Nat) ({ cls := "CoalHoles$Heard", name := "<init>", desc := "()V" } : Jvm.MethodName) "CoalHoles") ∈ lw_tbl := List.mem_append_right _ (List.mem_of_getElem? (i := 371) (by decide +kernel))
theorem un_497 : (Jvm.Cond.methodLinkNest "CoalHoles$Tape" (91 : Nat) ({ cls := "CoalHoles", name := "isFact", desc := "(I)Z" } : Jvm.MethodName) "CoalHoles") ∈ lw_tbl := List.mem_append_right _ (List.mem_of_getElem? (i := 497) (by decide +kernel))
theorem un_520 : (Jvm.Cond.methodLinkNest "CoalHoles$Tape" (84 : Nat) ({ cls := "CoalHoles", name := "isWithin", desc := "(III)Z" } : Jvm.MethodName) "CoalHoles") ∈ lw_tbl := List.mem_append_right _ (List.mem_of_getElem? (i := 520) (by decide +kernel))
theorem un_537 : (Jvm.Cond.methodLinkNest "CoalHoles$Terrace" (138 : Nat) ({ cls := "CoalHoles", name := "isWithin", desc := "(III)Z" } : Jvm.MethodName) "CoalHoles") ∈ lw_tbl := List.mem_append_right _ (List.mem_of_getElem? (i := 537) (by decide +kernel))
theorem un_562 : (Jvm.Cond.methodLinkNest "CoalHoles$Law" (48 : Nat) ({ cls := "CoalHoles", name := "isFact", desc := "(I)Z" } : Jvm.MethodName) "CoalHoles") ∈ lw_tbl := List.mem_append_right _ (List.mem_of_getElem? (i := 562) (by decide +kernel))
theorem un_614 : (Jvm.Cond.methodLinkNest "CoalHoles$Winter" (52 : Nat) ({ cls := "CoalHoles", name := "isWithin", desc := "(III)Z" } : Jvm.MethodName) "CoalHoles") ∈ lw_tbl := List.mem_append_right _ (List.mem_of_getElem? (i := 614) (by decide +kernel))
theorem aw_X0 : ∀ w ∈ u_ws RX0 TX0 5, w ∈ Uw := fun w hw => by
  have h : u_ws RX0 TX0 5 = [173, 175, 177, 179, 181].filterMap (fun i => tables_1[i]?) := by decide +kernel
  have h2 : (u_ws RX0 TX0 5).all goodWord = true := by decide +kernel
  have hg := List.all_eq_true.mp h2 w hw
  rw [h] at hw
  obtain ⟨i, -, hi⟩ := List.mem_filterMap.mp hw
  exact Uw_of i hi hg
theorem aw_X1 : ∀ w ∈ u_ws RX1 TX1 5, w ∈ Uw := fun w hw => by
  have h : u_ws RX1 TX1 5 = [239, 241, 243, 245, 247].filterMap (fun i => tables_1[i]?) := by decide +kernel
  have h2 : (u_ws RX1 TX1 5).all goodWord = true := by decide +kernel
  have hg := List.all_eq_true.mp h2 w hw
  rw [h] at hw
  obtain ⟨i, -, hi⟩ := List.mem_filterMap.mp hw
  exact Uw_of i hi hg
theorem aw_X2 : ∀ w ∈ u_ws RX2 TX2 8, w ∈ Uw := fun w hw => by
  have h : u_ws RX2 TX2 8 = [201, 203, 205, 207, 209, 211, 213, 215].filterMap (fun i => tables_1[i]?) := by decide +kernel
  have h2 : (u_ws RX2 TX2 8).all goodWord = true := by decide +kernel
  have hg := List.all_eq_true.mp h2 w hw
  rw [h] at hw
  obtain ⟨i, -, hi⟩ := List.mem_filterMap.mp hw
  exact Uw_of i hi hg
theorem aw_X3 : ∀ w ∈ u_ws RX3 TX3 4, w ∈ Uw := fun w hw => by
  have h : u_ws RX3 TX3 4 = [377, 379, 381, 383].filterMap (fun i => tables_1[i]?) := by decide +kernel
  have h2 : (u_ws RX3 TX3 4).all goodWord = true := by decide +kernel
  have hg := List.all_eq_true.mp h2 w hw
  rw [h] at hw
  obtain ⟨i, -, hi⟩ := List.mem_filterMap.mp hw
  exact Uw_of i hi hg
theorem aw_X4 : ∀ w ∈ u_ws RX4 TX4 5, w ∈ Uw := fun w hw => by
  have h : u_ws RX4 TX4 5 = [147, 149, 151, 153, 155].filterMap (fun i => tables_1[i]?) := by decide +kernel
  have h2 : (u_ws RX4 TX4 5).all goodWord = true := by decide +kernel
  have hg := List.all_eq_true.mp h2 w hw
  rw [h] at hw
  obtain ⟨i, -, hi⟩ := List.mem_filterMap.mp hw
  exact Uw_of i hi hg
theorem aw_X5 : ∀ w ∈ u_ws RX5 TX5 10, w ∈ Uw := fun w hw => by
  have h : u_ws RX5 TX5 10 = [104, 106, 108, 110, 112, 114, 116, 118, 120, 122].filterMap (fun i => tables_1[i]?) := by decide +kernel
  have h2 : (u_ws RX5 TX5 10).all goodWord = true := by decide +kernel
  have hg := List.all_eq_true.mp h2 w hw
  rw [h] at hw
  obtain ⟨i, -, hi⟩ := List.mem_filterMap.mp hw
  exact Uw_of i hi hg
theorem aw_X6 : ∀ w ∈ u_ws RX6 TX6 18, w ∈ Uw := fun w hw => by
  have h : u_ws RX6 TX6 18 = [304, 306, 308, 310, 312, 314, 316, 318, 320, 322, 324, 326, 328, 330, 332, 334, 336, 338].filterMap (fun i => tables_1[i]?) := by decide +kernel
  have h2 : (u_ws RX6 TX6 18).all goodWord = true := by decide +kernel
  have hg := List.all_eq_true.mp h2 w hw
  rw [h] at hw
  obtain ⟨i, -, hi⟩ := List.mem_filterMap.mp hw
  exact Uw_of i hi hg
theorem aw_X7 : ∀ w ∈ u_ws RX7 TX7 4, w ∈ Uw := fun w hw => by
  have h : u_ws RX7 TX7 4 = [352, 354, 356, 358].filterMap (fun i => tables_1[i]?) := by decide +kernel
  have h2 : (u_ws RX7 TX7 4).all goodWord = true := by decide +kernel
  have hg := List.all_eq_true.mp h2 w hw
  rw [h] at hw
  obtain ⟨i, -, hi⟩ := List.mem_filterMap.mp hw
  exact Uw_of i hi hg
theorem aw_X8 : ∀ w ∈ u_ws RX8 TX8 14, w ∈ Uw := fun w hw => by
  have h : u_ws RX8 TX8 14 = [400, 402, 404, 406, 408, 410, 412, 414, 416, 418, 420, 422, 424, 426].filterMap (fun i => tables_1[i]?) := by decide +kernel
  have h2 : (u_ws RX8 TX8 14).all goodWord = true := by decide +kernel
  have hg := List.all_eq_true.mp h2 w hw
  rw [h] at hw
  obtain ⟨i, -, hi⟩ := List.mem_filterMap.mp hw
  exact Uw_of i hi hg
theorem aw_X9 : ∀ w ∈ u_ws RX9 TX9 62, w ∈ Uw := fun w hw => by
  have h : u_ws RX9 TX9 62 = [1117, 1119, 1121, 1123, 1125, 1127, 1129, 1131, 1133, 1135, 1137, 1139, 1141, 1143, 1145, 1147, 1149, 1151, 1153, 1155, 1157, 1159, 1161, 1163, 1165, 1167, 1169, 1171, 1173, 1175, 1177, 1179, 1181, 1183, 1185, 1187, 1189, 1191, 1193, 1195, 1197, 1199, 1201, 1203, 1205, 1207, 1209, 1211, 1213, 1215, 1217, 1219, 1221, 1223, 1225, 1227, 1229, 1231, 1233, 1235, 1237, 1239].filterMap (fun i => tables_1[i]?) := by decide +kernel
  have h2 : (u_ws RX9 TX9 62).all goodWord = true := by decide +kernel
  have hg := List.all_eq_true.mp h2 w hw
  rw [h] at hw
  obtain ⟨i, -, hi⟩ := List.mem_filterMap.mp hw
  exact Uw_of i hi hg
theorem fg_X0_15 : FG RX0 15 0 1 := ⟨RX0, TX0, 5, rfl, by decide, uw_166, aw_X0⟩
theorem fg_X0_19 : FG RX0 19 0 2 := ⟨RX0, TX0, 5, rfl, by decide, uw_167, aw_X0⟩
theorem fg_X0_23 : FG RX0 23 0 3 := ⟨RX0, TX0, 5, rfl, by decide, uw_169, aw_X0⟩
theorem fg_X0_26 : FG RX0 26 0 4 := ⟨RX0, TX0, 5, rfl, by decide, uw_171, aw_X0⟩
theorem fg_X0_9 : FG RX0 9 0 0 := ⟨RX0, TX0, 5, rfl, by decide, uw_165, aw_X0⟩
theorem fg_X1_15 : FG RX1 15 1 1 := ⟨RX1, TX1, 5, rfl, by decide, uw_234, aw_X1⟩
theorem fg_X1_18 : FG RX1 18 1 2 := ⟨RX1, TX1, 5, rfl, by decide, uw_235, aw_X1⟩
theorem fg_X1_22 : FG RX1 22 1 3 := ⟨RX1, TX1, 5, rfl, by decide, uw_236, aw_X1⟩
theorem fg_X1_25 : FG RX1 25 5 9 := ⟨RX5, TX5, 10, rfl, by decide, uw_100, aw_X5⟩
theorem fg_X1_34 : FG RX1 34 5 7 := ⟨RX5, TX5, 10, rfl, by decide, uw_95, aw_X5⟩
theorem fg_X1_55 : FG RX1 55 5 8 := ⟨RX5, TX5, 10, rfl, by decide, uw_98, aw_X5⟩
theorem fg_X1_78 : FG RX1 78 1 4 := ⟨RX1, TX1, 5, rfl, by decide, uw_238, aw_X1⟩
theorem fg_X1_9 : FG RX1 9 1 0 := ⟨RX1, TX1, 5, rfl, by decide, uw_233, aw_X1⟩
theorem fg_X2_106 : FG RX2 106 6 10 := ⟨RX6, TX6, 18, rfl, by decide, uw_280, aw_X6⟩
theorem fg_X2_109 : FG RX2 109 4 1 := ⟨RX4, TX4, 5, rfl, by decide, uw_137, aw_X4⟩
theorem fg_X2_15 : FG RX2 15 2 1 := ⟨RX2, TX2, 8, rfl, by decide, uw_192, aw_X2⟩
theorem fg_X2_18 : FG RX2 18 2 2 := ⟨RX2, TX2, 8, rfl, by decide, uw_193, aw_X2⟩
theorem fg_X2_21 : FG RX2 21 2 6 := ⟨RX2, TX2, 8, rfl, by decide, uw_197, aw_X2⟩
theorem fg_X2_30 : FG RX2 30 2 3 := ⟨RX2, TX2, 8, rfl, by decide, uw_194, aw_X2⟩
theorem fg_X2_34 : FG RX2 34 4 3 := ⟨RX4, TX4, 5, rfl, by decide, uw_141, aw_X4⟩
theorem fg_X2_47 : FG RX2 47 2 4 := ⟨RX2, TX2, 8, rfl, by decide, uw_195, aw_X2⟩
theorem fg_X2_57 : FG RX2 57 6 14 := ⟨RX6, TX6, 18, rfl, by decide, uw_292, aw_X6⟩
theorem fg_X2_71 : FG RX2 71 2 5 := ⟨RX2, TX2, 8, rfl, by decide, uw_196, aw_X2⟩
theorem fg_X2_82 : FG RX2 82 2 7 := ⟨RX2, TX2, 8, rfl, by decide, uw_199, aw_X2⟩
theorem fg_X2_85 : FG RX2 85 6 13 := ⟨RX6, TX6, 18, rfl, by decide, uw_289, aw_X6⟩
theorem fg_X2_88 : FG RX2 88 6 5 := ⟨RX6, TX6, 18, rfl, by decide, uw_264, aw_X6⟩
theorem fg_X2_9 : FG RX2 9 2 0 := ⟨RX2, TX2, 8, rfl, by decide, uw_191, aw_X2⟩
theorem fg_X2_95 : FG RX2 95 6 9 := ⟨RX6, TX6, 18, rfl, by decide, uw_276, aw_X6⟩
theorem fg_X3_10 : FG RX3 10 3 0 := ⟨RX3, TX3, 4, rfl, by decide, uw_372, aw_X3⟩
theorem fg_X3_19 : FG RX3 19 3 1 := ⟨RX3, TX3, 4, rfl, by decide, uw_373, aw_X3⟩
theorem fg_X3_26 : FG RX3 26 3 2 := ⟨RX3, TX3, 4, rfl, by decide, uw_374, aw_X3⟩
theorem fg_X3_40 : FG RX3 40 3 3 := ⟨RX3, TX3, 4, rfl, by decide, uw_375, aw_X3⟩
theorem fg_X4_111 : FG RX4 111 6 7 := ⟨RX6, TX6, 18, rfl, by decide, uw_271, aw_X6⟩
theorem fg_X4_117 : FG RX4 117 6 16 := ⟨RX6, TX6, 18, rfl, by decide, uw_300, aw_X6⟩
theorem fg_X4_120 : FG RX4 120 6 17 := ⟨RX6, TX6, 18, rfl, by decide, uw_303, aw_X6⟩
theorem fg_X4_15 : FG RX4 15 4 1 := ⟨RX4, TX4, 5, rfl, by decide, uw_135, aw_X4⟩
theorem fg_X4_18 : FG RX4 18 6 6 := ⟨RX6, TX6, 18, rfl, by decide, uw_268, aw_X6⟩
theorem fg_X4_23 : FG RX4 23 4 2 := ⟨RX4, TX4, 5, rfl, by decide, uw_138, aw_X4⟩
theorem fg_X4_27 : FG RX4 27 4 3 := ⟨RX4, TX4, 5, rfl, by decide, uw_142, aw_X4⟩
theorem fg_X4_30 : FG RX4 30 4 4 := ⟨RX4, TX4, 5, rfl, by decide, uw_144, aw_X4⟩
theorem fg_X4_33 : FG RX4 33 6 13 := ⟨RX6, TX6, 18, rfl, by decide, uw_290, aw_X6⟩
theorem fg_X4_36 : FG RX4 36 6 14 := ⟨RX6, TX6, 18, rfl, by decide, uw_294, aw_X6⟩
theorem fg_X4_43 : FG RX4 43 6 11 := ⟨RX6, TX6, 18, rfl, by decide, uw_284, aw_X6⟩
theorem fg_X4_50 : FG RX4 50 6 9 := ⟨RX6, TX6, 18, rfl, by decide, uw_278, aw_X6⟩
theorem fg_X4_62 : FG RX4 62 6 10 := ⟨RX6, TX6, 18, rfl, by decide, uw_282, aw_X6⟩
theorem fg_X4_69 : FG RX4 69 6 12 := ⟨RX6, TX6, 18, rfl, by decide, uw_287, aw_X6⟩
theorem fg_X4_73 : FG RX4 73 6 5 := ⟨RX6, TX6, 18, rfl, by decide, uw_266, aw_X6⟩
theorem fg_X4_9 : FG RX4 9 4 0 := ⟨RX4, TX4, 5, rfl, by decide, uw_133, aw_X4⟩
theorem fg_X4_96 : FG RX4 96 6 8 := ⟨RX6, TX6, 18, rfl, by decide, uw_274, aw_X6⟩
theorem fg_X4_99 : FG RX4 99 6 15 := ⟨RX6, TX6, 18, rfl, by decide, uw_297, aw_X6⟩
theorem fg_X5_15 : FG RX5 15 5 1 := ⟨RX5, TX5, 10, rfl, by decide, uw_85, aw_X5⟩
theorem fg_X5_33 : FG RX5 33 5 6 := ⟨RX5, TX5, 10, rfl, by decide, uw_91, aw_X5⟩
theorem fg_X5_36 : FG RX5 36 5 2 := ⟨RX5, TX5, 10, rfl, by decide, uw_86, aw_X5⟩
theorem fg_X5_39 : FG RX5 39 5 9 := ⟨RX5, TX5, 10, rfl, by decide, uw_103, aw_X5⟩
theorem fg_X5_45 : FG RX5 45 5 7 := ⟨RX5, TX5, 10, rfl, by decide, uw_97, aw_X5⟩
theorem fg_X5_48 : FG RX5 48 5 3 := ⟨RX5, TX5, 10, rfl, by decide, uw_87, aw_X5⟩
theorem fg_X5_51 : FG RX5 51 5 4 := ⟨RX5, TX5, 10, rfl, by decide, uw_88, aw_X5⟩
theorem fg_X5_67 : FG RX5 67 5 8 := ⟨RX5, TX5, 10, rfl, by decide, uw_99, aw_X5⟩
theorem fg_X5_70 : FG RX5 70 5 5 := ⟨RX5, TX5, 10, rfl, by decide, uw_89, aw_X5⟩
theorem fg_X5_9 : FG RX5 9 5 0 := ⟨RX5, TX5, 10, rfl, by decide, uw_84, aw_X5⟩
theorem fg_X6_101 : FG RX6 101 5 6 := ⟨RX5, TX5, 10, rfl, by decide, uw_93, aw_X5⟩
theorem fg_X6_104 : FG RX6 104 5 9 := ⟨RX5, TX5, 10, rfl, by decide, uw_102, aw_X5⟩
theorem fg_X6_107 : FG RX6 107 6 13 := ⟨RX6, TX6, 18, rfl, by decide, uw_288, aw_X6⟩
theorem fg_X6_110 : FG RX6 110 6 14 := ⟨RX6, TX6, 18, rfl, by decide, uw_293, aw_X6⟩
theorem fg_X6_113 : FG RX6 113 6 4 := ⟨RX6, TX6, 18, rfl, by decide, uw_262, aw_X6⟩
theorem fg_X6_116 : FG RX6 116 6 15 := ⟨RX6, TX6, 18, rfl, by decide, uw_296, aw_X6⟩
theorem fg_X6_119 : FG RX6 119 1 4 := ⟨RX1, TX1, 5, rfl, by decide, uw_237, aw_X1⟩
theorem fg_X6_15 : FG RX6 15 6 1 := ⟨RX6, TX6, 18, rfl, by decide, uw_259, aw_X6⟩
theorem fg_X6_161 : FG RX6 161 6 16 := ⟨RX6, TX6, 18, rfl, by decide, uw_299, aw_X6⟩
theorem fg_X6_164 : FG RX6 164 6 17 := ⟨RX6, TX6, 18, rfl, by decide, uw_301, aw_X6⟩
theorem fg_X6_18 : FG RX6 18 6 2 := ⟨RX6, TX6, 18, rfl, by decide, uw_260, aw_X6⟩
theorem fg_X6_22 : FG RX6 22 6 3 := ⟨RX6, TX6, 18, rfl, by decide, uw_261, aw_X6⟩
theorem fg_X6_25 : FG RX6 25 6 5 := ⟨RX6, TX6, 18, rfl, by decide, uw_263, aw_X6⟩
theorem fg_X6_28 : FG RX6 28 6 6 := ⟨RX6, TX6, 18, rfl, by decide, uw_267, aw_X6⟩
theorem fg_X6_31 : FG RX6 31 6 7 := ⟨RX6, TX6, 18, rfl, by decide, uw_269, aw_X6⟩
theorem fg_X6_34 : FG RX6 34 6 8 := ⟨RX6, TX6, 18, rfl, by decide, uw_272, aw_X6⟩
theorem fg_X6_37 : FG RX6 37 6 9 := ⟨RX6, TX6, 18, rfl, by decide, uw_275, aw_X6⟩
theorem fg_X6_40 : FG RX6 40 6 10 := ⟨RX6, TX6, 18, rfl, by decide, uw_279, aw_X6⟩
theorem fg_X6_43 : FG RX6 43 6 11 := ⟨RX6, TX6, 18, rfl, by decide, uw_283, aw_X6⟩
theorem fg_X6_49 : FG RX6 49 6 12 := ⟨RX6, TX6, 18, rfl, by decide, uw_286, aw_X6⟩
theorem fg_X6_68 : FG RX6 68 5 7 := ⟨RX5, TX5, 10, rfl, by decide, uw_94, aw_X5⟩
theorem fg_X6_9 : FG RX6 9 6 0 := ⟨RX6, TX6, 18, rfl, by decide, uw_258, aw_X6⟩
theorem fg_X7_15 : FG RX7 15 7 1 := ⟨RX7, TX7, 4, rfl, by decide, uw_348, aw_X7⟩
theorem fg_X7_18 : FG RX7 18 7 2 := ⟨RX7, TX7, 4, rfl, by decide, uw_349, aw_X7⟩
theorem fg_X7_22 : FG RX7 22 7 3 := ⟨RX7, TX7, 4, rfl, by decide, uw_350, aw_X7⟩
theorem fg_X7_43 : FG RX7 43 5 6 := ⟨RX5, TX5, 10, rfl, by decide, uw_92, aw_X5⟩
theorem fg_X7_46 : FG RX7 46 5 9 := ⟨RX5, TX5, 10, rfl, by decide, uw_101, aw_X5⟩
theorem fg_X7_49 : FG RX7 49 5 7 := ⟨RX5, TX5, 10, rfl, by decide, uw_96, aw_X5⟩
theorem fg_X7_77 : FG RX7 77 4 2 := ⟨RX4, TX4, 5, rfl, by decide, uw_139, aw_X4⟩
theorem fg_X7_84 : FG RX7 84 4 4 := ⟨RX4, TX4, 5, rfl, by decide, uw_145, aw_X4⟩
theorem fg_X7_9 : FG RX7 9 7 0 := ⟨RX7, TX7, 4, rfl, by decide, uw_347, aw_X7⟩
theorem fg_X8_10 : FG RX8 10 8 0 := ⟨RX8, TX8, 14, rfl, by decide, uw_386, aw_X8⟩
theorem fg_X8_107 : FG RX8 107 6 5 := ⟨RX6, TX6, 18, rfl, by decide, uw_265, aw_X6⟩
theorem fg_X8_111 : FG RX8 111 4 0 := ⟨RX4, TX4, 5, rfl, by decide, uw_134, aw_X4⟩
theorem fg_X8_114 : FG RX8 114 6 7 := ⟨RX6, TX6, 18, rfl, by decide, uw_270, aw_X6⟩
theorem fg_X8_117 : FG RX8 117 4 1 := ⟨RX4, TX4, 5, rfl, by decide, uw_136, aw_X4⟩
theorem fg_X8_120 : FG RX8 120 6 8 := ⟨RX6, TX6, 18, rfl, by decide, uw_273, aw_X6⟩
theorem fg_X8_130 : FG RX8 130 6 9 := ⟨RX6, TX6, 18, rfl, by decide, uw_277, aw_X6⟩
theorem fg_X8_133 : FG RX8 133 6 10 := ⟨RX6, TX6, 18, rfl, by decide, uw_281, aw_X6⟩
theorem fg_X8_140 : FG RX8 140 4 2 := ⟨RX4, TX4, 5, rfl, by decide, uw_140, aw_X4⟩
theorem fg_X8_172 : FG RX8 172 8 11 := ⟨RX8, TX8, 14, rfl, by decide, uw_397, aw_X8⟩
theorem fg_X8_19 : FG RX8 19 8 1 := ⟨RX8, TX8, 14, rfl, by decide, uw_387, aw_X8⟩
theorem fg_X8_193 : FG RX8 193 6 13 := ⟨RX6, TX6, 18, rfl, by decide, uw_291, aw_X6⟩
theorem fg_X8_203 : FG RX8 203 6 17 := ⟨RX6, TX6, 18, rfl, by decide, uw_302, aw_X6⟩
theorem fg_X8_209 : FG RX8 209 6 14 := ⟨RX6, TX6, 18, rfl, by decide, uw_295, aw_X6⟩
theorem fg_X8_216 : FG RX8 216 2 7 := ⟨RX2, TX2, 8, rfl, by decide, uw_200, aw_X2⟩
theorem fg_X8_217 : FG RX8 217 2 6 := ⟨RX2, TX2, 8, rfl, by decide, uw_198, aw_X2⟩
theorem fg_X8_223 : FG RX8 223 6 11 := ⟨RX6, TX6, 18, rfl, by decide, uw_285, aw_X6⟩
theorem fg_X8_23 : FG RX8 23 8 2 := ⟨RX8, TX8, 14, rfl, by decide, uw_388, aw_X8⟩
theorem fg_X8_239 : FG RX8 239 4 3 := ⟨RX4, TX4, 5, rfl, by decide, uw_143, aw_X4⟩
theorem fg_X8_249 : FG RX8 249 0 3 := ⟨RX0, TX0, 5, rfl, by decide, uw_170, aw_X0⟩
theorem fg_X8_252 : FG RX8 252 0 4 := ⟨RX0, TX0, 5, rfl, by decide, uw_172, aw_X0⟩
theorem fg_X8_274 : FG RX8 274 8 13 := ⟨RX8, TX8, 14, rfl, by decide, uw_399, aw_X8⟩
theorem fg_X8_29 : FG RX8 29 8 3 := ⟨RX8, TX8, 14, rfl, by decide, uw_389, aw_X8⟩
theorem fg_X8_291 : FG RX8 291 6 15 := ⟨RX6, TX6, 18, rfl, by decide, uw_298, aw_X6⟩
theorem fg_X8_297 : FG RX8 297 4 4 := ⟨RX4, TX4, 5, rfl, by decide, uw_146, aw_X4⟩
theorem fg_X8_36 : FG RX8 36 8 4 := ⟨RX8, TX8, 14, rfl, by decide, uw_390, aw_X8⟩
theorem fg_X8_42 : FG RX8 42 8 5 := ⟨RX8, TX8, 14, rfl, by decide, uw_391, aw_X8⟩
theorem fg_X8_46 : FG RX8 46 8 6 := ⟨RX8, TX8, 14, rfl, by decide, uw_392, aw_X8⟩
theorem fg_X8_53 : FG RX8 53 8 7 := ⟨RX8, TX8, 14, rfl, by decide, uw_393, aw_X8⟩
theorem fg_X8_57 : FG RX8 57 8 8 := ⟨RX8, TX8, 14, rfl, by decide, uw_394, aw_X8⟩
theorem fg_X8_63 : FG RX8 63 8 9 := ⟨RX8, TX8, 14, rfl, by decide, uw_395, aw_X8⟩
theorem fg_X8_67 : FG RX8 67 8 10 := ⟨RX8, TX8, 14, rfl, by decide, uw_396, aw_X8⟩
theorem fg_X8_75 : FG RX8 75 5 6 := ⟨RX5, TX5, 10, rfl, by decide, uw_90, aw_X5⟩
theorem fg_X8_87 : FG RX8 87 7 3 := ⟨RX7, TX7, 4, rfl, by decide, uw_351, aw_X7⟩
theorem fg_X8_90 : FG RX8 90 0 2 := ⟨RX0, TX0, 5, rfl, by decide, uw_168, aw_X0⟩
theorem fg_X8_93 : FG RX8 93 8 12 := ⟨RX8, TX8, 14, rfl, by decide, uw_398, aw_X8⟩
theorem fg_X8_96 : FG RX8 96 3 3 := ⟨RX3, TX3, 4, rfl, by decide, uw_376, aw_X3⟩
theorem fg_X9_102 : FG RX9 102 9 43 := ⟨RX9, TX9, 62, rfl, by decide, uw_1098, aw_X9⟩
theorem fg_X9_105 : FG RX9 105 9 44 := ⟨RX9, TX9, 62, rfl, by decide, uw_1099, aw_X9⟩
theorem fg_X9_108 : FG RX9 108 9 45 := ⟨RX9, TX9, 62, rfl, by decide, uw_1100, aw_X9⟩
theorem fg_X9_111 : FG RX9 111 9 46 := ⟨RX9, TX9, 62, rfl, by decide, uw_1101, aw_X9⟩
theorem fg_X9_114 : FG RX9 114 9 47 := ⟨RX9, TX9, 62, rfl, by decide, uw_1102, aw_X9⟩
theorem fg_X9_117 : FG RX9 117 9 48 := ⟨RX9, TX9, 62, rfl, by decide, uw_1103, aw_X9⟩
theorem fg_X9_120 : FG RX9 120 9 49 := ⟨RX9, TX9, 62, rfl, by decide, uw_1104, aw_X9⟩
theorem fg_X9_123 : FG RX9 123 9 50 := ⟨RX9, TX9, 62, rfl, by decide, uw_1105, aw_X9⟩
theorem fg_X9_126 : FG RX9 126 9 51 := ⟨RX9, TX9, 62, rfl, by decide, uw_1106, aw_X9⟩
theorem fg_X9_129 : FG RX9 129 9 52 := ⟨RX9, TX9, 62, rfl, by decide, uw_1107, aw_X9⟩
theorem fg_X9_13 : FG RX9 13 9 10 := ⟨RX9, TX9, 62, rfl, by decide, uw_1065, aw_X9⟩
theorem fg_X9_132 : FG RX9 132 9 56 := ⟨RX9, TX9, 62, rfl, by decide, uw_1111, aw_X9⟩
theorem fg_X9_135 : FG RX9 135 9 57 := ⟨RX9, TX9, 62, rfl, by decide, uw_1112, aw_X9⟩
theorem fg_X9_142 : FG RX9 142 9 0 := ⟨RX9, TX9, 62, rfl, by decide, uw_1055, aw_X9⟩
theorem fg_X9_148 : FG RX9 148 9 1 := ⟨RX9, TX9, 62, rfl, by decide, uw_1056, aw_X9⟩
theorem fg_X9_151 : FG RX9 151 9 3 := ⟨RX9, TX9, 62, rfl, by decide, uw_1058, aw_X9⟩
theorem fg_X9_154 : FG RX9 154 9 4 := ⟨RX9, TX9, 62, rfl, by decide, uw_1059, aw_X9⟩
theorem fg_X9_157 : FG RX9 157 9 5 := ⟨RX9, TX9, 62, rfl, by decide, uw_1060, aw_X9⟩
theorem fg_X9_16 : FG RX9 16 9 11 := ⟨RX9, TX9, 62, rfl, by decide, uw_1066, aw_X9⟩
theorem fg_X9_160 : FG RX9 160 9 7 := ⟨RX9, TX9, 62, rfl, by decide, uw_1062, aw_X9⟩
theorem fg_X9_164 : FG RX9 164 9 8 := ⟨RX9, TX9, 62, rfl, by decide, uw_1063, aw_X9⟩
theorem fg_X9_167 : FG RX9 167 9 6 := ⟨RX9, TX9, 62, rfl, by decide, uw_1061, aw_X9⟩
theorem fg_X9_178 : FG RX9 178 9 9 := ⟨RX9, TX9, 62, rfl, by decide, uw_1064, aw_X9⟩
theorem fg_X9_181 : FG RX9 181 9 24 := ⟨RX9, TX9, 62, rfl, by decide, uw_1079, aw_X9⟩
theorem fg_X9_20 : FG RX9 20 9 12 := ⟨RX9, TX9, 62, rfl, by decide, uw_1067, aw_X9⟩
theorem fg_X9_23 : FG RX9 23 9 13 := ⟨RX9, TX9, 62, rfl, by decide, uw_1068, aw_X9⟩
theorem fg_X9_26 : FG RX9 26 9 14 := ⟨RX9, TX9, 62, rfl, by decide, uw_1069, aw_X9⟩
theorem fg_X9_270 : FG RX9 270 9 38 := ⟨RX9, TX9, 62, rfl, by decide, uw_1093, aw_X9⟩
theorem fg_X9_287 : FG RX9 287 9 39 := ⟨RX9, TX9, 62, rfl, by decide, uw_1094, aw_X9⟩
theorem fg_X9_29 : FG RX9 29 9 15 := ⟨RX9, TX9, 62, rfl, by decide, uw_1070, aw_X9⟩
theorem fg_X9_303 : FG RX9 303 9 25 := ⟨RX9, TX9, 62, rfl, by decide, uw_1080, aw_X9⟩
theorem fg_X9_32 : FG RX9 32 9 16 := ⟨RX9, TX9, 62, rfl, by decide, uw_1071, aw_X9⟩
theorem fg_X9_35 : FG RX9 35 9 17 := ⟨RX9, TX9, 62, rfl, by decide, uw_1072, aw_X9⟩
theorem fg_X9_354 : FG RX9 354 9 53 := ⟨RX9, TX9, 62, rfl, by decide, uw_1108, aw_X9⟩
theorem fg_X9_38 : FG RX9 38 9 18 := ⟨RX9, TX9, 62, rfl, by decide, uw_1073, aw_X9⟩
theorem fg_X9_397 : FG RX9 397 9 54 := ⟨RX9, TX9, 62, rfl, by decide, uw_1109, aw_X9⟩
theorem fg_X9_41 : FG RX9 41 9 19 := ⟨RX9, TX9, 62, rfl, by decide, uw_1074, aw_X9⟩
theorem fg_X9_434 : FG RX9 434 9 55 := ⟨RX9, TX9, 62, rfl, by decide, uw_1110, aw_X9⟩
theorem fg_X9_44 : FG RX9 44 9 20 := ⟨RX9, TX9, 62, rfl, by decide, uw_1075, aw_X9⟩
theorem fg_X9_446 : FG RX9 446 9 58 := ⟨RX9, TX9, 62, rfl, by decide, uw_1113, aw_X9⟩
theorem fg_X9_456 : FG RX9 456 9 59 := ⟨RX9, TX9, 62, rfl, by decide, uw_1114, aw_X9⟩
theorem fg_X9_459 : FG RX9 459 9 60 := ⟨RX9, TX9, 62, rfl, by decide, uw_1115, aw_X9⟩
theorem fg_X9_47 : FG RX9 47 9 21 := ⟨RX9, TX9, 62, rfl, by decide, uw_1076, aw_X9⟩
theorem fg_X9_478 : FG RX9 478 9 61 := ⟨RX9, TX9, 62, rfl, by decide, uw_1116, aw_X9⟩
theorem fg_X9_50 : FG RX9 50 9 22 := ⟨RX9, TX9, 62, rfl, by decide, uw_1077, aw_X9⟩
theorem fg_X9_53 : FG RX9 53 9 23 := ⟨RX9, TX9, 62, rfl, by decide, uw_1078, aw_X9⟩
theorem fg_X9_56 : FG RX9 56 9 26 := ⟨RX9, TX9, 62, rfl, by decide, uw_1081, aw_X9⟩
theorem fg_X9_59 : FG RX9 59 9 27 := ⟨RX9, TX9, 62, rfl, by decide, uw_1082, aw_X9⟩
theorem fg_X9_63 : FG RX9 63 9 28 := ⟨RX9, TX9, 62, rfl, by decide, uw_1083, aw_X9⟩
theorem fg_X9_66 : FG RX9 66 9 29 := ⟨RX9, TX9, 62, rfl, by decide, uw_1084, aw_X9⟩
theorem fg_X9_69 : FG RX9 69 9 30 := ⟨RX9, TX9, 62, rfl, by decide, uw_1085, aw_X9⟩
theorem fg_X9_7 : FG RX9 7 9 2 := ⟨RX9, TX9, 62, rfl, by decide, uw_1057, aw_X9⟩
theorem fg_X9_72 : FG RX9 72 9 31 := ⟨RX9, TX9, 62, rfl, by decide, uw_1086, aw_X9⟩
theorem fg_X9_75 : FG RX9 75 9 32 := ⟨RX9, TX9, 62, rfl, by decide, uw_1087, aw_X9⟩
theorem fg_X9_78 : FG RX9 78 9 33 := ⟨RX9, TX9, 62, rfl, by decide, uw_1088, aw_X9⟩
theorem fg_X9_81 : FG RX9 81 9 34 := ⟨RX9, TX9, 62, rfl, by decide, uw_1089, aw_X9⟩
theorem fg_X9_84 : FG RX9 84 9 35 := ⟨RX9, TX9, 62, rfl, by decide, uw_1090, aw_X9⟩
theorem fg_X9_87 : FG RX9 87 9 36 := ⟨RX9, TX9, 62, rfl, by decide, uw_1091, aw_X9⟩
theorem fg_X9_90 : FG RX9 90 9 37 := ⟨RX9, TX9, 62, rfl, by decide, uw_1092, aw_X9⟩
theorem fg_X9_93 : FG RX9 93 9 40 := ⟨RX9, TX9, 62, rfl, by decide, uw_1095, aw_X9⟩
theorem fg_X9_96 : FG RX9 96 9 41 := ⟨RX9, TX9, 62, rfl, by decide, uw_1096, aw_X9⟩
theorem fg_X9_99 : FG RX9 99 9 42 := ⟨RX9, TX9, 62, rfl, by decide, uw_1097, aw_X9⟩
theorem fp_X0_2 : FP 0 2 .int := ⟨RX0, TX0, 5, tyX0, rfl, tyX0_ok, nmX0, rfl, by decide +kernel⟩
theorem fp_X0_3 : FP 0 3 .int := ⟨RX0, TX0, 5, tyX0, rfl, tyX0_ok, nmX0, rfl, by decide +kernel⟩
theorem fp_X0_4 : FP 0 4 .int := ⟨RX0, TX0, 5, tyX0, rfl, tyX0_ok, nmX0, rfl, by decide +kernel⟩
theorem fp_X1_2 : FP 1 2 .int := ⟨RX1, TX1, 5, tyX1, rfl, tyX1_ok, nmX1, rfl, by decide +kernel⟩
theorem fp_X1_3 : FP 1 3 .int := ⟨RX1, TX1, 5, tyX1, rfl, tyX1_ok, nmX1, rfl, by decide +kernel⟩
theorem fp_X1_4 : FP 1 4 .int := ⟨RX1, TX1, 5, tyX1, rfl, tyX1_ok, nmX1, rfl, by decide +kernel⟩
theorem fp_X2_3 : FP 2 3 .int := ⟨RX2, TX2, 8, tyX2, rfl, tyX2_ok, nmX2, rfl, by decide +kernel⟩
theorem fp_X2_4 : FP 2 4 .int := ⟨RX2, TX2, 8, tyX2, rfl, tyX2_ok, nmX2, rfl, by decide +kernel⟩
theorem fp_X2_5 : FP 2 5 .int := ⟨RX2, TX2, 8, tyX2, rfl, tyX2_ok, nmX2, rfl, by decide +kernel⟩
theorem fp_X2_7 : FP 2 7 .int := ⟨RX2, TX2, 8, tyX2, rfl, tyX2_ok, nmX2, rfl, by decide +kernel⟩
theorem fp_X3_3 : FP 3 3 .boolean := ⟨RX3, TX3, 4, tyX3, rfl, tyX3_ok, nmX3, rfl, by decide +kernel⟩
theorem fp_X4_2 : FP 4 2 .int := ⟨RX4, TX4, 5, tyX4, rfl, tyX4_ok, nmX4, rfl, by decide +kernel⟩
theorem fp_X4_3 : FP 4 3 .int := ⟨RX4, TX4, 5, tyX4, rfl, tyX4_ok, nmX4, rfl, by decide +kernel⟩
theorem fp_X4_4 : FP 4 4 .int := ⟨RX4, TX4, 5, tyX4, rfl, tyX4_ok, nmX4, rfl, by decide +kernel⟩
theorem fp_X5_2 : FP 5 2 .int := ⟨RX5, TX5, 10, tyX5, rfl, tyX5_ok, nmX5, rfl, by decide +kernel⟩
theorem fp_X5_3 : FP 5 3 .int := ⟨RX5, TX5, 10, tyX5, rfl, tyX5_ok, nmX5, rfl, by decide +kernel⟩
theorem fp_X5_4 : FP 5 4 .int := ⟨RX5, TX5, 10, tyX5, rfl, tyX5_ok, nmX5, rfl, by decide +kernel⟩
theorem fp_X5_5 : FP 5 5 .long := ⟨RX5, TX5, 10, tyX5, rfl, tyX5_ok, nmX5, rfl, by decide +kernel⟩
theorem fp_X5_6 : FP 5 6 .int := ⟨RX5, TX5, 10, tyX5, rfl, tyX5_ok, nmX5, rfl, by decide +kernel⟩
theorem fp_X5_7 : FP 5 7 .int := ⟨RX5, TX5, 10, tyX5, rfl, tyX5_ok, nmX5, rfl, by decide +kernel⟩
theorem fp_X5_8 : FP 5 8 .int := ⟨RX5, TX5, 10, tyX5, rfl, tyX5_ok, nmX5, rfl, by decide +kernel⟩
theorem fp_X5_9 : FP 5 9 .int := ⟨RX5, TX5, 10, tyX5, rfl, tyX5_ok, nmX5, rfl, by decide +kernel⟩
theorem fp_X6_13 : FP 6 13 .int := ⟨RX6, TX6, 18, tyX6, rfl, tyX6_ok, nmX6, rfl, by decide +kernel⟩
theorem fp_X6_14 : FP 6 14 .int := ⟨RX6, TX6, 18, tyX6, rfl, tyX6_ok, nmX6, rfl, by decide +kernel⟩
theorem fp_X6_15 : FP 6 15 .int := ⟨RX6, TX6, 18, tyX6, rfl, tyX6_ok, nmX6, rfl, by decide +kernel⟩
theorem fp_X6_16 : FP 6 16 .int := ⟨RX6, TX6, 18, tyX6, rfl, tyX6_ok, nmX6, rfl, by decide +kernel⟩
theorem fp_X6_17 : FP 6 17 .int := ⟨RX6, TX6, 18, tyX6, rfl, tyX6_ok, nmX6, rfl, by decide +kernel⟩
theorem fp_X6_4 : FP 6 4 .int := ⟨RX6, TX6, 18, tyX6, rfl, tyX6_ok, nmX6, rfl, by decide +kernel⟩
theorem fp_X7_3 : FP 7 3 .int := ⟨RX7, TX7, 4, tyX7, rfl, tyX7_ok, nmX7, rfl, by decide +kernel⟩
theorem fp_X8_11 : FP 8 11 .int := ⟨RX8, TX8, 14, tyX8, rfl, tyX8_ok, nmX8, rfl, by decide +kernel⟩
theorem fp_X8_12 : FP 8 12 .int := ⟨RX8, TX8, 14, tyX8, rfl, tyX8_ok, nmX8, rfl, by decide +kernel⟩
theorem fp_X8_13 : FP 8 13 .long := ⟨RX8, TX8, 14, tyX8, rfl, tyX8_ok, nmX8, rfl, by decide +kernel⟩
theorem fp_X9_0 : FP 9 0 .int := ⟨RX9, TX9, 62, tyX9, rfl, tyX9_ok, nmX9, rfl, by decide +kernel⟩
theorem fp_X9_1 : FP 9 1 .int := ⟨RX9, TX9, 62, tyX9, rfl, tyX9_ok, nmX9, rfl, by decide +kernel⟩
theorem fp_X9_24 : FP 9 24 .int := ⟨RX9, TX9, 62, tyX9, rfl, tyX9_ok, nmX9, rfl, by decide +kernel⟩
theorem fp_X9_25 : FP 9 25 .boolean := ⟨RX9, TX9, 62, tyX9, rfl, tyX9_ok, nmX9, rfl, by decide +kernel⟩
theorem fp_X9_3 : FP 9 3 .int := ⟨RX9, TX9, 62, tyX9, rfl, tyX9_ok, nmX9, rfl, by decide +kernel⟩
theorem fp_X9_38 : FP 9 38 .int := ⟨RX9, TX9, 62, tyX9, rfl, tyX9_ok, nmX9, rfl, by decide +kernel⟩
theorem fp_X9_39 : FP 9 39 .long := ⟨RX9, TX9, 62, tyX9, rfl, tyX9_ok, nmX9, rfl, by decide +kernel⟩
theorem fp_X9_4 : FP 9 4 .int := ⟨RX9, TX9, 62, tyX9, rfl, tyX9_ok, nmX9, rfl, by decide +kernel⟩
theorem fp_X9_5 : FP 9 5 .int := ⟨RX9, TX9, 62, tyX9, rfl, tyX9_ok, nmX9, rfl, by decide +kernel⟩
theorem fp_X9_53 : FP 9 53 .int := ⟨RX9, TX9, 62, tyX9, rfl, tyX9_ok, nmX9, rfl, by decide +kernel⟩
theorem fp_X9_54 : FP 9 54 .int := ⟨RX9, TX9, 62, tyX9, rfl, tyX9_ok, nmX9, rfl, by decide +kernel⟩
theorem fp_X9_55 : FP 9 55 .int := ⟨RX9, TX9, 62, tyX9, rfl, tyX9_ok, nmX9, rfl, by decide +kernel⟩
theorem fp_X9_58 : FP 9 58 .int := ⟨RX9, TX9, 62, tyX9, rfl, tyX9_ok, nmX9, rfl, by decide +kernel⟩
theorem fp_X9_59 : FP 9 59 .int := ⟨RX9, TX9, 62, tyX9, rfl, tyX9_ok, nmX9, rfl, by decide +kernel⟩
theorem fp_X9_6 : FP 9 6 .int := ⟨RX9, TX9, 62, tyX9, rfl, tyX9_ok, nmX9, rfl, by decide +kernel⟩
theorem fp_X9_60 : FP 9 60 .int := ⟨RX9, TX9, 62, tyX9, rfl, tyX9_ok, nmX9, rfl, by decide +kernel⟩
theorem fp_X9_61 : FP 9 61 .long := ⟨RX9, TX9, 62, tyX9, rfl, tyX9_ok, nmX9, rfl, by decide +kernel⟩
theorem fp_X9_7 : FP 9 7 .long := ⟨RX9, TX9, 62, tyX9, rfl, tyX9_ok, nmX9, rfl, by decide +kernel⟩
theorem fp_X9_8 : FP 9 8 .int := ⟨RX9, TX9, 62, tyX9, rfl, tyX9_ok, nmX9, rfl, by decide +kernel⟩
theorem fp_X9_9 : FP 9 9 .int := ⟨RX9, TX9, 62, tyX9, rfl, tyX9_ok, nmX9, rfl, by decide +kernel⟩
theorem hd_J6_bitCount_0f7a4 : yJ6_bitCount_0f7a4.cls ≠ "java/lang/invoke/MethodHandle" ∧ yJ6_bitCount_0f7a4.cls ≠ "java/lang/invoke/VarHandle" ∧ (parseMethodDescriptor yJ6_bitCount_0f7a4.desc).map (fun d => d.parameters.length) = some 1 := by decide +kernel
theorem hd_X0_add : yX0_add.cls = RX0 ∧ yX0_add.cls ≠ "java/lang/invoke/MethodHandle" ∧ yX0_add.cls ≠ "java/lang/invoke/VarHandle" ∧ (parseMethodDescriptor yX0_add.desc).map (fun d => d.parameters.length) = some 2 := by decide +kernel
theorem hd_X0_bestQuestion : yX0_bestQuestion.cls = RX0 ∧ yX0_bestQuestion.cls ≠ "java/lang/invoke/MethodHandle" ∧ yX0_bestQuestion.cls ≠ "java/lang/invoke/VarHandle" ∧ (parseMethodDescriptor yX0_bestQuestion.desc).map (fun d => d.parameters.length) = some 2 := by decide +kernel
theorem hd_X0_copyFrom : yX0_copyFrom.cls = RX0 ∧ yX0_copyFrom.cls ≠ "java/lang/invoke/MethodHandle" ∧ yX0_copyFrom.cls ≠ "java/lang/invoke/VarHandle" ∧ (parseMethodDescriptor yX0_copyFrom.desc).map (fun d => d.parameters.length) = some 1 := by decide +kernel
theorem hd_X0_init : yX0_init.cls = RX0 ∧ yX0_init.cls ≠ "java/lang/invoke/MethodHandle" ∧ yX0_init.cls ≠ "java/lang/invoke/VarHandle" ∧ (parseMethodDescriptor yX0_init.desc).map (fun d => d.parameters.length) = some 0 := by decide +kernel
theorem hd_X0_many : yX0_many.cls = RX0 ∧ yX0_many.cls ≠ "java/lang/invoke/MethodHandle" ∧ yX0_many.cls ≠ "java/lang/invoke/VarHandle" ∧ (parseMethodDescriptor yX0_many.desc).map (fun d => d.parameters.length) = some 0 := by decide +kernel
theorem hd_X0_narrow : yX0_narrow.cls = RX0 ∧ yX0_narrow.cls ≠ "java/lang/invoke/MethodHandle" ∧ yX0_narrow.cls ≠ "java/lang/invoke/VarHandle" ∧ (parseMethodDescriptor yX0_narrow.desc).map (fun d => d.parameters.length) = some 2 := by decide +kernel
theorem hd_X1_allows : yX1_allows.cls = RX1 ∧ yX1_allows.cls ≠ "java/lang/invoke/MethodHandle" ∧ yX1_allows.cls ≠ "java/lang/invoke/VarHandle" ∧ (parseMethodDescriptor yX1_allows.desc).map (fun d => d.parameters.length) = some 4 := by decide +kernel
theorem hd_X1_closeBracket : yX1_closeBracket.cls = RX1 ∧ yX1_closeBracket.cls ≠ "java/lang/invoke/MethodHandle" ∧ yX1_closeBracket.cls ≠ "java/lang/invoke/VarHandle" ∧ (parseMethodDescriptor yX1_closeBracket.desc).map (fun d => d.parameters.length) = some 1 := by decide +kernel
theorem hd_X1_closeNots : yX1_closeNots.cls = RX1 ∧ yX1_closeNots.cls ≠ "java/lang/invoke/MethodHandle" ∧ yX1_closeNots.cls ≠ "java/lang/invoke/VarHandle" ∧ (parseMethodDescriptor yX1_closeNots.desc).map (fun d => d.parameters.length) = some 0 := by decide +kernel
theorem hd_X1_emit : yX1_emit.cls = RX1 ∧ yX1_emit.cls ≠ "java/lang/invoke/MethodHandle" ∧ yX1_emit.cls ≠ "java/lang/invoke/VarHandle" ∧ (parseMethodDescriptor yX1_emit.desc).map (fun d => d.parameters.length) = some 1 := by decide +kernel
theorem hd_X1_emitDownTo : yX1_emitDownTo.cls = RX1 ∧ yX1_emitDownTo.cls ≠ "java/lang/invoke/MethodHandle" ∧ yX1_emitDownTo.cls ≠ "java/lang/invoke/VarHandle" ∧ (parseMethodDescriptor yX1_emitDownTo.desc).map (fun d => d.parameters.length) = some 1 := by decide +kernel
theorem hd_X1_init : yX1_init.cls = RX1 ∧ yX1_init.cls ≠ "java/lang/invoke/MethodHandle" ∧ yX1_init.cls ≠ "java/lang/invoke/VarHandle" ∧ (parseMethodDescriptor yX1_init.desc).map (fun d => d.parameters.length) = some 0 := by decide +kernel
theorem hd_X1_joined : yX1_joined.cls ≠ "java/lang/invoke/MethodHandle" ∧ yX1_joined.cls ≠ "java/lang/invoke/VarHandle" ∧ (parseMethodDescriptor yX1_joined.desc).map (fun d => d.parameters.length) = some 3 := by decide +kernel
theorem hd_X1_pop : yX1_pop.cls = RX1 ∧ yX1_pop.cls ≠ "java/lang/invoke/MethodHandle" ∧ yX1_pop.cls ≠ "java/lang/invoke/VarHandle" ∧ (parseMethodDescriptor yX1_pop.desc).map (fun d => d.parameters.length) = some 0 := by decide +kernel
theorem hd_X1_push : yX1_push.cls = RX1 ∧ yX1_push.cls ≠ "java/lang/invoke/MethodHandle" ∧ yX1_push.cls ≠ "java/lang/invoke/VarHandle" ∧ (parseMethodDescriptor yX1_push.desc).map (fun d => d.parameters.length) = some 1 := by decide +kernel
theorem hd_X1_rankOf : yX1_rankOf.cls ≠ "java/lang/invoke/MethodHandle" ∧ yX1_rankOf.cls ≠ "java/lang/invoke/VarHandle" ∧ (parseMethodDescriptor yX1_rankOf.desc).map (fun d => d.parameters.length) = some 1 := by decide +kernel
theorem hd_X1_readFrom : yX1_readFrom.cls = RX1 ∧ yX1_readFrom.cls ≠ "java/lang/invoke/MethodHandle" ∧ yX1_readFrom.cls ≠ "java/lang/invoke/VarHandle" ∧ (parseMethodDescriptor yX1_readFrom.desc).map (fun d => d.parameters.length) = some 1 := by decide +kernel
theorem hd_X1_readOperator : yX1_readOperator.cls = RX1 ∧ yX1_readOperator.cls ≠ "java/lang/invoke/MethodHandle" ∧ yX1_readOperator.cls ≠ "java/lang/invoke/VarHandle" ∧ (parseMethodDescriptor yX1_readOperator.desc).map (fun d => d.parameters.length) = some 1 := by decide +kernel
theorem hd_X1_readPart : yX1_readPart.cls = RX1 ∧ yX1_readPart.cls ≠ "java/lang/invoke/MethodHandle" ∧ yX1_readPart.cls ≠ "java/lang/invoke/VarHandle" ∧ (parseMethodDescriptor yX1_readPart.desc).map (fun d => d.parameters.length) = some 1 := by decide +kernel
theorem hd_X2_costOf : yX2_costOf.cls = RX2 ∧ yX2_costOf.cls ≠ "java/lang/invoke/MethodHandle" ∧ yX2_costOf.cls ≠ "java/lang/invoke/VarHandle" ∧ (parseMethodDescriptor yX2_costOf.desc).map (fun d => d.parameters.length) = some 3 := by decide +kernel
theorem hd_X2_init : yX2_init.cls = RX2 ∧ yX2_init.cls ≠ "java/lang/invoke/MethodHandle" ∧ yX2_init.cls ≠ "java/lang/invoke/VarHandle" ∧ (parseMethodDescriptor yX2_init.desc).map (fun d => d.parameters.length) = some 0 := by decide +kernel
theorem hd_X2_isLodged : yX2_isLodged.cls = RX2 ∧ yX2_isLodged.cls ≠ "java/lang/invoke/MethodHandle" ∧ yX2_isLodged.cls ≠ "java/lang/invoke/VarHandle" ∧ (parseMethodDescriptor yX2_isLodged.desc).map (fun d => d.parameters.length) = some 1 := by decide +kernel
theorem hd_X2_isTaken : yX2_isTaken.cls = RX2 ∧ yX2_isTaken.cls ≠ "java/lang/invoke/MethodHandle" ∧ yX2_isTaken.cls ≠ "java/lang/invoke/VarHandle" ∧ (parseMethodDescriptor yX2_isTaken.desc).map (fun d => d.parameters.length) = some 4 := by decide +kernel
theorem hd_X2_keepRow : yX2_keepRow.cls = RX2 ∧ yX2_keepRow.cls ≠ "java/lang/invoke/MethodHandle" ∧ yX2_keepRow.cls ≠ "java/lang/invoke/VarHandle" ∧ (parseMethodDescriptor yX2_keepRow.desc).map (fun d => d.parameters.length) = some 2 := by decide +kernel
theorem hd_X2_lawfulFromNow : yX2_lawfulFromNow.cls = RX2 ∧ yX2_lawfulFromNow.cls ≠ "java/lang/invoke/MethodHandle" ∧ yX2_lawfulFromNow.cls ≠ "java/lang/invoke/VarHandle" ∧ (parseMethodDescriptor yX2_lawfulFromNow.desc).map (fun d => d.parameters.length) = some 4 := by decide +kernel
theorem hd_X2_learnLaw : yX2_learnLaw.cls = RX2 ∧ yX2_learnLaw.cls ≠ "java/lang/invoke/MethodHandle" ∧ yX2_learnLaw.cls ≠ "java/lang/invoke/VarHandle" ∧ (parseMethodDescriptor yX2_learnLaw.desc).map (fun d => d.parameters.length) = some 2 := by decide +kernel
theorem hd_X2_leastCost : yX2_leastCost.cls = RX2 ∧ yX2_leastCost.cls ≠ "java/lang/invoke/MethodHandle" ∧ yX2_leastCost.cls ≠ "java/lang/invoke/VarHandle" ∧ (parseMethodDescriptor yX2_leastCost.desc).map (fun d => d.parameters.length) = some 3 := by decide +kernel
theorem hd_X2_lodge : yX2_lodge.cls ≠ "java/lang/invoke/MethodHandle" ∧ yX2_lodge.cls ≠ "java/lang/invoke/VarHandle" ∧ (parseMethodDescriptor yX2_lodge.desc).map (fun d => d.parameters.length) = some 5 := by decide +kernel
theorem hd_X2_search : yX2_search.cls = RX2 ∧ yX2_search.cls ≠ "java/lang/invoke/MethodHandle" ∧ yX2_search.cls ≠ "java/lang/invoke/VarHandle" ∧ (parseMethodDescriptor yX2_search.desc).map (fun d => d.parameters.length) = some 3 := by decide +kernel
theorem hd_X3_giveBack : yX3_giveBack.cls = RX3 ∧ yX3_giveBack.cls ≠ "java/lang/invoke/MethodHandle" ∧ yX3_giveBack.cls ≠ "java/lang/invoke/VarHandle" ∧ (parseMethodDescriptor yX3_giveBack.desc).map (fun d => d.parameters.length) = some 3 := by decide +kernel
theorem hd_X3_init : yX3_init.cls = RX3 ∧ yX3_init.cls ≠ "java/lang/invoke/MethodHandle" ∧ yX3_init.cls ≠ "java/lang/invoke/VarHandle" ∧ (parseMethodDescriptor yX3_init.desc).map (fun d => d.parameters.length) = some 0 := by decide +kernel
theorem hd_X3_keep : yX3_keep.cls = RX3 ∧ yX3_keep.cls ≠ "java/lang/invoke/MethodHandle" ∧ yX3_keep.cls ≠ "java/lang/invoke/VarHandle" ∧ (parseMethodDescriptor yX3_keep.desc).map (fun d => d.parameters.length) = some 3 := by decide +kernel
theorem hd_X4_addSack : yX4_addSack.cls = RX4 ∧ yX4_addSack.cls ≠ "java/lang/invoke/MethodHandle" ∧ yX4_addSack.cls ≠ "java/lang/invoke/VarHandle" ∧ (parseMethodDescriptor yX4_addSack.desc).map (fun d => d.parameters.length) = some 2 := by decide +kernel
theorem hd_X4_allCoal : yX4_allCoal.cls = RX4 ∧ yX4_allCoal.cls ≠ "java/lang/invoke/MethodHandle" ∧ yX4_allCoal.cls ≠ "java/lang/invoke/VarHandle" ∧ (parseMethodDescriptor yX4_allCoal.desc).map (fun d => d.parameters.length) = some 1 := by decide +kernel
theorem hd_X4_beginAt : yX4_beginAt.cls = RX4 ∧ yX4_beginAt.cls ≠ "java/lang/invoke/MethodHandle" ∧ yX4_beginAt.cls ≠ "java/lang/invoke/VarHandle" ∧ (parseMethodDescriptor yX4_beginAt.desc).map (fun d => d.parameters.length) = some 1 := by decide +kernel
theorem hd_X4_canClimb : yX4_canClimb.cls = RX4 ∧ yX4_canClimb.cls ≠ "java/lang/invoke/MethodHandle" ∧ yX4_canClimb.cls ≠ "java/lang/invoke/VarHandle" ∧ (parseMethodDescriptor yX4_canClimb.desc).map (fun d => d.parameters.length) = some 2 := by decide +kernel
theorem hd_X4_canGoDown : yX4_canGoDown.cls = RX4 ∧ yX4_canGoDown.cls ≠ "java/lang/invoke/MethodHandle" ∧ yX4_canGoDown.cls ≠ "java/lang/invoke/VarHandle" ∧ (parseMethodDescriptor yX4_canGoDown.desc).map (fun d => d.parameters.length) = some 3 := by decide +kernel
theorem hd_X4_canGoThrough : yX4_canGoThrough.cls = RX4 ∧ yX4_canGoThrough.cls ≠ "java/lang/invoke/MethodHandle" ∧ yX4_canGoThrough.cls ≠ "java/lang/invoke/VarHandle" ∧ (parseMethodDescriptor yX4_canGoThrough.desc).map (fun d => d.parameters.length) = some 3 := by decide +kernel
theorem hd_X4_copyFrom : yX4_copyFrom.cls = RX4 ∧ yX4_copyFrom.cls ≠ "java/lang/invoke/MethodHandle" ∧ yX4_copyFrom.cls ≠ "java/lang/invoke/VarHandle" ∧ (parseMethodDescriptor yX4_copyFrom.desc).map (fun d => d.parameters.length) = some 1 := by decide +kernel
theorem hd_X4_daysUntilBelow : yX4_daysUntilBelow.cls = RX4 ∧ yX4_daysUntilBelow.cls ≠ "java/lang/invoke/MethodHandle" ∧ yX4_daysUntilBelow.cls ≠ "java/lang/invoke/VarHandle" ∧ (parseMethodDescriptor yX4_daysUntilBelow.desc).map (fun d => d.parameters.length) = some 3 := by decide +kernel
theorem hd_X4_foesBits : yX4_foesBits.cls = RX4 ∧ yX4_foesBits.cls ≠ "java/lang/invoke/MethodHandle" ∧ yX4_foesBits.cls ≠ "java/lang/invoke/VarHandle" ∧ (parseMethodDescriptor yX4_foesBits.desc).map (fun d => d.parameters.length) = some 2 := by decide +kernel
theorem hd_X4_init : yX4_init.cls = RX4 ∧ yX4_init.cls ≠ "java/lang/invoke/MethodHandle" ∧ yX4_init.cls ≠ "java/lang/invoke/VarHandle" ∧ (parseMethodDescriptor yX4_init.desc).map (fun d => d.parameters.length) = some 0 := by decide +kernel
theorem hd_X4_isLawful : yX4_isLawful.cls = RX4 ∧ yX4_isLawful.cls ≠ "java/lang/invoke/MethodHandle" ∧ yX4_isLawful.cls ≠ "java/lang/invoke/VarHandle" ∧ (parseMethodDescriptor yX4_isLawful.desc).map (fun d => d.parameters.length) = some 4 := by decide +kernel
theorem hd_X4_isPeaceful : yX4_isPeaceful.cls = RX4 ∧ yX4_isPeaceful.cls ≠ "java/lang/invoke/MethodHandle" ∧ yX4_isPeaceful.cls ≠ "java/lang/invoke/VarHandle" ∧ (parseMethodDescriptor yX4_isPeaceful.desc).map (fun d => d.parameters.length) = some 3 := by decide +kernel
theorem hd_X4_lastingBits : yX4_lastingBits.cls = RX4 ∧ yX4_lastingBits.cls ≠ "java/lang/invoke/MethodHandle" ∧ yX4_lastingBits.cls ≠ "java/lang/invoke/VarHandle" ∧ (parseMethodDescriptor yX4_lastingBits.desc).map (fun d => d.parameters.length) = some 2 := by decide +kernel
theorem hd_X4_move : yX4_move.cls = RX4 ∧ yX4_move.cls ≠ "java/lang/invoke/MethodHandle" ∧ yX4_move.cls ≠ "java/lang/invoke/VarHandle" ∧ (parseMethodDescriptor yX4_move.desc).map (fun d => d.parameters.length) = some 2 := by decide +kernel
theorem hd_X4_passDay : yX4_passDay.cls = RX4 ∧ yX4_passDay.cls ≠ "java/lang/invoke/MethodHandle" ∧ yX4_passDay.cls ≠ "java/lang/invoke/VarHandle" ∧ (parseMethodDescriptor yX4_passDay.desc).map (fun d => d.parameters.length) = some 1 := by decide +kernel
theorem hd_X4_placeOf : yX4_placeOf.cls = RX4 ∧ yX4_placeOf.cls ≠ "java/lang/invoke/MethodHandle" ∧ yX4_placeOf.cls ≠ "java/lang/invoke/VarHandle" ∧ (parseMethodDescriptor yX4_placeOf.desc).map (fun d => d.parameters.length) = some 1 := by decide +kernel
theorem hd_X4_sacksDue : yX4_sacksDue.cls = RX4 ∧ yX4_sacksDue.cls ≠ "java/lang/invoke/MethodHandle" ∧ yX4_sacksDue.cls ≠ "java/lang/invoke/VarHandle" ∧ (parseMethodDescriptor yX4_sacksDue.desc).map (fun d => d.parameters.length) = some 3 := by decide +kernel
theorem hd_X4_safeDays : yX4_safeDays.cls = RX4 ∧ yX4_safeDays.cls ≠ "java/lang/invoke/MethodHandle" ∧ yX4_safeDays.cls ≠ "java/lang/invoke/VarHandle" ∧ (parseMethodDescriptor yX4_safeDays.desc).map (fun d => d.parameters.length) = some 3 := by decide +kernel
theorem hd_X4_seizedIfLasting : yX4_seizedIfLasting.cls = RX4 ∧ yX4_seizedIfLasting.cls ≠ "java/lang/invoke/MethodHandle" ∧ yX4_seizedIfLasting.cls ≠ "java/lang/invoke/VarHandle" ∧ (parseMethodDescriptor yX4_seizedIfLasting.desc).map (fun d => d.parameters.length) = some 2 := by decide +kernel
theorem hd_X4_streetBits : yX4_streetBits.cls = RX4 ∧ yX4_streetBits.cls ≠ "java/lang/invoke/MethodHandle" ∧ yX4_streetBits.cls ≠ "java/lang/invoke/VarHandle" ∧ (parseMethodDescriptor yX4_streetBits.desc).map (fun d => d.parameters.length) = some 1 := by decide +kernel
theorem hd_X4_takenBits : yX4_takenBits.cls = RX4 ∧ yX4_takenBits.cls ≠ "java/lang/invoke/MethodHandle" ∧ yX4_takenBits.cls ≠ "java/lang/invoke/VarHandle" ∧ (parseMethodDescriptor yX4_takenBits.desc).map (fun d => d.parameters.length) = some 2 := by decide +kernel
theorem hd_X4_takes : yX4_takes.cls = RX4 ∧ yX4_takes.cls ≠ "java/lang/invoke/MethodHandle" ∧ yX4_takes.cls ≠ "java/lang/invoke/VarHandle" ∧ (parseMethodDescriptor yX4_takes.desc).map (fun d => d.parameters.length) = some 3 := by decide +kernel
theorem hd_X5_addBytes : yX5_addBytes.cls = RX5 ∧ yX5_addBytes.cls ≠ "java/lang/invoke/MethodHandle" ∧ yX5_addBytes.cls ≠ "java/lang/invoke/VarHandle" ∧ (parseMethodDescriptor yX5_addBytes.desc).map (fun d => d.parameters.length) = some 1 := by decide +kernel
theorem hd_X5_begin : yX5_begin.cls = RX5 ∧ yX5_begin.cls ≠ "java/lang/invoke/MethodHandle" ∧ yX5_begin.cls ≠ "java/lang/invoke/VarHandle" ∧ (parseMethodDescriptor yX5_begin.desc).map (fun d => d.parameters.length) = some 0 := by decide +kernel
theorem hd_X5_expect : yX5_expect.cls = RX5 ∧ yX5_expect.cls ≠ "java/lang/invoke/MethodHandle" ∧ yX5_expect.cls ≠ "java/lang/invoke/VarHandle" ∧ (parseMethodDescriptor yX5_expect.desc).map (fun d => d.parameters.length) = some 1 := by decide +kernel
theorem hd_X5_expectName : yX5_expectName.cls = RX5 ∧ yX5_expectName.cls ≠ "java/lang/invoke/MethodHandle" ∧ yX5_expectName.cls ≠ "java/lang/invoke/VarHandle" ∧ (parseMethodDescriptor yX5_expectName.desc).map (fun d => d.parameters.length) = some 0 := by decide +kernel
theorem hd_X5_expectNumber : yX5_expectNumber.cls = RX5 ∧ yX5_expectNumber.cls ≠ "java/lang/invoke/MethodHandle" ∧ yX5_expectNumber.cls ≠ "java/lang/invoke/VarHandle" ∧ (parseMethodDescriptor yX5_expectNumber.desc).map (fun d => d.parameters.length) = some 2 := by decide +kernel
theorem hd_X5_init : yX5_init.cls = RX5 ∧ yX5_init.cls ≠ "java/lang/invoke/MethodHandle" ∧ yX5_init.cls ≠ "java/lang/invoke/VarHandle" ∧ (parseMethodDescriptor yX5_init.desc).map (fun d => d.parameters.length) = some 0 := by decide +kernel
theorem hd_X5_isAtEnd : yX5_isAtEnd.cls = RX5 ∧ yX5_isAtEnd.cls ≠ "java/lang/invoke/MethodHandle" ∧ yX5_isAtEnd.cls ≠ "java/lang/invoke/VarHandle" ∧ (parseMethodDescriptor yX5_isAtEnd.desc).map (fun d => d.parameters.length) = some 0 := by decide +kernel
theorem hd_X5_isDigit : yX5_isDigit.cls ≠ "java/lang/invoke/MethodHandle" ∧ yX5_isDigit.cls ≠ "java/lang/invoke/VarHandle" ∧ (parseMethodDescriptor yX5_isDigit.desc).map (fun d => d.parameters.length) = some 1 := by decide +kernel
theorem hd_X5_isLetter : yX5_isLetter.cls ≠ "java/lang/invoke/MethodHandle" ∧ yX5_isLetter.cls ≠ "java/lang/invoke/VarHandle" ∧ (parseMethodDescriptor yX5_isLetter.desc).map (fun d => d.parameters.length) = some 1 := by decide +kernel
theorem hd_X5_next : yX5_next.cls = RX5 ∧ yX5_next.cls ≠ "java/lang/invoke/MethodHandle" ∧ yX5_next.cls ≠ "java/lang/invoke/VarHandle" ∧ (parseMethodDescriptor yX5_next.desc).map (fun d => d.parameters.length) = some 0 := by decide +kernel
theorem hd_X5_refuse : yX5_refuse.cls = RX5 ∧ yX5_refuse.cls ≠ "java/lang/invoke/MethodHandle" ∧ yX5_refuse.cls ≠ "java/lang/invoke/VarHandle" ∧ (parseMethodDescriptor yX5_refuse.desc).map (fun d => d.parameters.length) = some 1 := by decide +kernel
theorem hd_X5_refuseTaken : yX5_refuseTaken.cls = RX5 ∧ yX5_refuseTaken.cls ≠ "java/lang/invoke/MethodHandle" ∧ yX5_refuseTaken.cls ≠ "java/lang/invoke/VarHandle" ∧ (parseMethodDescriptor yX5_refuseTaken.desc).map (fun d => d.parameters.length) = some 1 := by decide +kernel
theorem hd_X5_takeNumber : yX5_takeNumber.cls = RX5 ∧ yX5_takeNumber.cls ≠ "java/lang/invoke/MethodHandle" ∧ yX5_takeNumber.cls ≠ "java/lang/invoke/VarHandle" ∧ (parseMethodDescriptor yX5_takeNumber.desc).map (fun d => d.parameters.length) = some 0 := by decide +kernel
theorem hd_X5_takeWord : yX5_takeWord.cls = RX5 ∧ yX5_takeWord.cls ≠ "java/lang/invoke/MethodHandle" ∧ yX5_takeWord.cls ≠ "java/lang/invoke/VarHandle" ∧ (parseMethodDescriptor yX5_takeWord.desc).map (fun d => d.parameters.length) = some 0 := by decide +kernel
theorem hd_X5_wordToken : yX5_wordToken.cls = RX5 ∧ yX5_wordToken.cls ≠ "java/lang/invoke/MethodHandle" ∧ yX5_wordToken.cls ≠ "java/lang/invoke/VarHandle" ∧ (parseMethodDescriptor yX5_wordToken.desc).map (fun d => d.parameters.length) = some 0 := by decide +kernel
theorem hd_X6_areAtWar : yX6_areAtWar.cls = RX6 ∧ yX6_areAtWar.cls ≠ "java/lang/invoke/MethodHandle" ∧ yX6_areAtWar.cls ≠ "java/lang/invoke/VarHandle" ∧ (parseMethodDescriptor yX6_areAtWar.desc).map (fun d => d.parameters.length) = some 2 := by decide +kernel
theorem hd_X6_besideBits : yX6_besideBits.cls = RX6 ∧ yX6_besideBits.cls ≠ "java/lang/invoke/MethodHandle" ∧ yX6_besideBits.cls ≠ "java/lang/invoke/VarHandle" ∧ (parseMethodDescriptor yX6_besideBits.desc).map (fun d => d.parameters.length) = some 1 := by decide +kernel
theorem hd_X6_bitsOfKind : yX6_bitsOfKind.cls = RX6 ∧ yX6_bitsOfKind.cls ≠ "java/lang/invoke/MethodHandle" ∧ yX6_bitsOfKind.cls ≠ "java/lang/invoke/VarHandle" ∧ (parseMethodDescriptor yX6_bitsOfKind.desc).map (fun d => d.parameters.length) = some 1 := by decide +kernel
theorem hd_X6_clear : yX6_clear.cls = RX6 ∧ yX6_clear.cls ≠ "java/lang/invoke/MethodHandle" ∧ yX6_clear.cls ≠ "java/lang/invoke/VarHandle" ∧ (parseMethodDescriptor yX6_clear.desc).map (fun d => d.parameters.length) = some 0 := by decide +kernel
theorem hd_X6_coldOf : yX6_coldOf.cls = RX6 ∧ yX6_coldOf.cls ≠ "java/lang/invoke/MethodHandle" ∧ yX6_coldOf.cls ≠ "java/lang/invoke/VarHandle" ∧ (parseMethodDescriptor yX6_coldOf.desc).map (fun d => d.parameters.length) = some 1 := by decide +kernel
theorem hd_X6_coldOver : yX6_coldOver.cls = RX6 ∧ yX6_coldOver.cls ≠ "java/lang/invoke/MethodHandle" ∧ yX6_coldOver.cls ≠ "java/lang/invoke/VarHandle" ∧ (parseMethodDescriptor yX6_coldOver.desc).map (fun d => d.parameters.length) = some 2 := by decide +kernel
theorem hd_X6_hasGuest : yX6_hasGuest.cls = RX6 ∧ yX6_hasGuest.cls ≠ "java/lang/invoke/MethodHandle" ∧ yX6_hasGuest.cls ≠ "java/lang/invoke/VarHandle" ∧ (parseMethodDescriptor yX6_hasGuest.desc).map (fun d => d.parameters.length) = some 1 := by decide +kernel
theorem hd_X6_hasHole : yX6_hasHole.cls = RX6 ∧ yX6_hasHole.cls ≠ "java/lang/invoke/MethodHandle" ∧ yX6_hasHole.cls ≠ "java/lang/invoke/VarHandle" ∧ (parseMethodDescriptor yX6_hasHole.desc).map (fun d => d.parameters.length) = some 1 := by decide +kernel
theorem hd_X6_indexOf : yX6_indexOf.cls ≠ "java/lang/invoke/MethodHandle" ∧ yX6_indexOf.cls ≠ "java/lang/invoke/VarHandle" ∧ (parseMethodDescriptor yX6_indexOf.desc).map (fun d => d.parameters.length) = some 3 := by decide +kernel
theorem hd_X6_init : yX6_init.cls = RX6 ∧ yX6_init.cls ≠ "java/lang/invoke/MethodHandle" ∧ yX6_init.cls ≠ "java/lang/invoke/VarHandle" ∧ (parseMethodDescriptor yX6_init.desc).map (fun d => d.parameters.length) = some 0 := by decide +kernel
theorem hd_X6_known : yX6_known.cls ≠ "java/lang/invoke/MethodHandle" ∧ yX6_known.cls ≠ "java/lang/invoke/VarHandle" ∧ (parseMethodDescriptor yX6_known.desc).map (fun d => d.parameters.length) = some 2 := by decide +kernel
theorem hd_X6_readCold : yX6_readCold.cls = RX6 ∧ yX6_readCold.cls ≠ "java/lang/invoke/MethodHandle" ∧ yX6_readCold.cls ≠ "java/lang/invoke/VarHandle" ∧ (parseMethodDescriptor yX6_readCold.desc).map (fun d => d.parameters.length) = some 1 := by decide +kernel
theorem hd_X6_readFrom : yX6_readFrom.cls = RX6 ∧ yX6_readFrom.cls ≠ "java/lang/invoke/MethodHandle" ∧ yX6_readFrom.cls ≠ "java/lang/invoke/VarHandle" ∧ (parseMethodDescriptor yX6_readFrom.desc).map (fun d => d.parameters.length) = some 1 := by decide +kernel
theorem hd_X6_readGuest : yX6_readGuest.cls = RX6 ∧ yX6_readGuest.cls ≠ "java/lang/invoke/MethodHandle" ∧ yX6_readGuest.cls ≠ "java/lang/invoke/VarHandle" ∧ (parseMethodDescriptor yX6_readGuest.desc).map (fun d => d.parameters.length) = some 1 := by decide +kernel
theorem hd_X6_readGuestName : yX6_readGuestName.cls = RX6 ∧ yX6_readGuestName.cls ≠ "java/lang/invoke/MethodHandle" ∧ yX6_readGuestName.cls ≠ "java/lang/invoke/VarHandle" ∧ (parseMethodDescriptor yX6_readGuestName.desc).map (fun d => d.parameters.length) = some 1 := by decide +kernel
theorem hd_X6_readHole : yX6_readHole.cls = RX6 ∧ yX6_readHole.cls ≠ "java/lang/invoke/MethodHandle" ∧ yX6_readHole.cls ≠ "java/lang/invoke/VarHandle" ∧ (parseMethodDescriptor yX6_readHole.desc).map (fun d => d.parameters.length) = some 1 := by decide +kernel
theorem hd_X6_readHoleName : yX6_readHoleName.cls = RX6 ∧ yX6_readHoleName.cls ≠ "java/lang/invoke/MethodHandle" ∧ yX6_readHoleName.cls ≠ "java/lang/invoke/VarHandle" ∧ (parseMethodDescriptor yX6_readHoleName.desc).map (fun d => d.parameters.length) = some 1 := by decide +kernel
theorem hd_X6_readNewName : yX6_readNewName.cls = RX6 ∧ yX6_readNewName.cls ≠ "java/lang/invoke/MethodHandle" ∧ yX6_readNewName.cls ≠ "java/lang/invoke/VarHandle" ∧ (parseMethodDescriptor yX6_readNewName.desc).map (fun d => d.parameters.length) = some 1 := by decide +kernel
theorem hd_X6_readSack : yX6_readSack.cls = RX6 ∧ yX6_readSack.cls ≠ "java/lang/invoke/MethodHandle" ∧ yX6_readSack.cls ≠ "java/lang/invoke/VarHandle" ∧ (parseMethodDescriptor yX6_readSack.desc).map (fun d => d.parameters.length) = some 1 := by decide +kernel
theorem hd_X6_readTakes : yX6_readTakes.cls = RX6 ∧ yX6_readTakes.cls ≠ "java/lang/invoke/MethodHandle" ∧ yX6_readTakes.cls ≠ "java/lang/invoke/VarHandle" ∧ (parseMethodDescriptor yX6_readTakes.desc).map (fun d => d.parameters.length) = some 1 := by decide +kernel
theorem hd_X6_readWall : yX6_readWall.cls = RX6 ∧ yX6_readWall.cls ≠ "java/lang/invoke/MethodHandle" ∧ yX6_readWall.cls ≠ "java/lang/invoke/VarHandle" ∧ (parseMethodDescriptor yX6_readWall.desc).map (fun d => d.parameters.length) = some 1 := by decide +kernel
theorem hd_X6_readWar : yX6_readWar.cls = RX6 ∧ yX6_readWar.cls ≠ "java/lang/invoke/MethodHandle" ∧ yX6_readWar.cls ≠ "java/lang/invoke/VarHandle" ∧ (parseMethodDescriptor yX6_readWar.desc).map (fun d => d.parameters.length) = some 1 := by decide +kernel
theorem hd_X6_settle : yX6_settle.cls = RX6 ∧ yX6_settle.cls ≠ "java/lang/invoke/MethodHandle" ∧ yX6_settle.cls ≠ "java/lang/invoke/VarHandle" ∧ (parseMethodDescriptor yX6_settle.desc).map (fun d => d.parameters.length) = some 0 := by decide +kernel
theorem hd_X7_copyFrom : yX7_copyFrom.cls = RX7 ∧ yX7_copyFrom.cls ≠ "java/lang/invoke/MethodHandle" ∧ yX7_copyFrom.cls ≠ "java/lang/invoke/VarHandle" ∧ (parseMethodDescriptor yX7_copyFrom.desc).map (fun d => d.parameters.length) = some 1 := by decide +kernel
theorem hd_X7_follow : yX7_follow.cls = RX7 ∧ yX7_follow.cls ≠ "java/lang/invoke/MethodHandle" ∧ yX7_follow.cls ≠ "java/lang/invoke/VarHandle" ∧ (parseMethodDescriptor yX7_follow.desc).map (fun d => d.parameters.length) = some 3 := by decide +kernel
theorem hd_X7_init : yX7_init.cls = RX7 ∧ yX7_init.cls ≠ "java/lang/invoke/MethodHandle" ∧ yX7_init.cls ≠ "java/lang/invoke/VarHandle" ∧ (parseMethodDescriptor yX7_init.desc).map (fun d => d.parameters.length) = some 0 := by decide +kernel
theorem hd_X7_judge : yX7_judge.cls = RX7 ∧ yX7_judge.cls ≠ "java/lang/invoke/MethodHandle" ∧ yX7_judge.cls ≠ "java/lang/invoke/VarHandle" ∧ (parseMethodDescriptor yX7_judge.desc).map (fun d => d.parameters.length) = some 3 := by decide +kernel
theorem hd_X7_readFrom : yX7_readFrom.cls = RX7 ∧ yX7_readFrom.cls ≠ "java/lang/invoke/MethodHandle" ∧ yX7_readFrom.cls ≠ "java/lang/invoke/VarHandle" ∧ (parseMethodDescriptor yX7_readFrom.desc).map (fun d => d.parameters.length) = some 2 := by decide +kernel
theorem hd_X7_readLine : yX7_readLine.cls = RX7 ∧ yX7_readLine.cls ≠ "java/lang/invoke/MethodHandle" ∧ yX7_readLine.cls ≠ "java/lang/invoke/VarHandle" ∧ (parseMethodDescriptor yX7_readLine.desc).map (fun d => d.parameters.length) = some 2 := by decide +kernel
theorem hd_X8_ask : yX8_ask.cls = RX8 ∧ yX8_ask.cls ≠ "java/lang/invoke/MethodHandle" ∧ yX8_ask.cls ≠ "java/lang/invoke/VarHandle" ∧ (parseMethodDescriptor yX8_ask.desc).map (fun d => d.parameters.length) = some 0 := by decide +kernel
theorem hd_X8_bring : yX8_bring.cls = RX8 ∧ yX8_bring.cls ≠ "java/lang/invoke/MethodHandle" ∧ yX8_bring.cls ≠ "java/lang/invoke/VarHandle" ∧ (parseMethodDescriptor yX8_bring.desc).map (fun d => d.parameters.length) = some 1 := by decide +kernel
theorem hd_X8_coals : yX8_coals.cls = RX8 ∧ yX8_coals.cls ≠ "java/lang/invoke/MethodHandle" ∧ yX8_coals.cls ≠ "java/lang/invoke/VarHandle" ∧ (parseMethodDescriptor yX8_coals.desc).map (fun d => d.parameters.length) = some 1 := by decide +kernel
theorem hd_X8_colder : yX8_colder.cls = RX8 ∧ yX8_colder.cls ≠ "java/lang/invoke/MethodHandle" ∧ yX8_colder.cls ≠ "java/lang/invoke/VarHandle" ∧ (parseMethodDescriptor yX8_colder.desc).map (fun d => d.parameters.length) = some 2 := by decide +kernel
theorem hd_X8_count : yX8_count.cls = RX8 ∧ yX8_count.cls ≠ "java/lang/invoke/MethodHandle" ∧ yX8_count.cls ≠ "java/lang/invoke/VarHandle" ∧ (parseMethodDescriptor yX8_count.desc).map (fun d => d.parameters.length) = some 1 := by decide +kernel
theorem hd_X8_day : yX8_day.cls = RX8 ∧ yX8_day.cls ≠ "java/lang/invoke/MethodHandle" ∧ yX8_day.cls ≠ "java/lang/invoke/VarHandle" ∧ (parseMethodDescriptor yX8_day.desc).map (fun d => d.parameters.length) = some 0 := by decide +kernel
theorem hd_X8_down : yX8_down.cls = RX8 ∧ yX8_down.cls ≠ "java/lang/invoke/MethodHandle" ∧ yX8_down.cls ≠ "java/lang/invoke/VarHandle" ∧ (parseMethodDescriptor yX8_down.desc).map (fun d => d.parameters.length) = some 2 := by decide +kernel
theorem hd_X8_drawBelow : yX8_drawBelow.cls = RX8 ∧ yX8_drawBelow.cls ≠ "java/lang/invoke/MethodHandle" ∧ yX8_drawBelow.cls ≠ "java/lang/invoke/VarHandle" ∧ (parseMethodDescriptor yX8_drawBelow.desc).map (fun d => d.parameters.length) = some 1 := by decide +kernel
theorem hd_X8_feed : yX8_feed.cls = RX8 ∧ yX8_feed.cls ≠ "java/lang/invoke/MethodHandle" ∧ yX8_feed.cls ≠ "java/lang/invoke/VarHandle" ∧ (parseMethodDescriptor yX8_feed.desc).map (fun d => d.parameters.length) = some 3 := by decide +kernel
theorem hd_X8_full : yX8_full.cls = RX8 ∧ yX8_full.cls ≠ "java/lang/invoke/MethodHandle" ∧ yX8_full.cls ≠ "java/lang/invoke/VarHandle" ∧ (parseMethodDescriptor yX8_full.desc).map (fun d => d.parameters.length) = some 0 := by decide +kernel
theorem hd_X8_goByDraws : yX8_goByDraws.cls = RX8 ∧ yX8_goByDraws.cls ≠ "java/lang/invoke/MethodHandle" ∧ yX8_goByDraws.cls ≠ "java/lang/invoke/VarHandle" ∧ (parseMethodDescriptor yX8_goByDraws.desc).map (fun d => d.parameters.length) = some 0 := by decide +kernel
theorem hd_X8_guest : yX8_guest.cls = RX8 ∧ yX8_guest.cls ≠ "java/lang/invoke/MethodHandle" ∧ yX8_guest.cls ≠ "java/lang/invoke/VarHandle" ∧ (parseMethodDescriptor yX8_guest.desc).map (fun d => d.parameters.length) = some 2 := by decide +kernel
theorem hd_X8_hear : yX8_hear.cls = RX8 ∧ yX8_hear.cls ≠ "java/lang/invoke/MethodHandle" ∧ yX8_hear.cls ≠ "java/lang/invoke/VarHandle" ∧ (parseMethodDescriptor yX8_hear.desc).map (fun d => d.parameters.length) = some 2 := by decide +kernel
theorem hd_X8_hole : yX8_hole.cls = RX8 ∧ yX8_hole.cls ≠ "java/lang/invoke/MethodHandle" ∧ yX8_hole.cls ≠ "java/lang/invoke/VarHandle" ∧ (parseMethodDescriptor yX8_hole.desc).map (fun d => d.parameters.length) = some 2 := by decide +kernel
theorem hd_X8_init : yX8_init.cls = RX8 ∧ yX8_init.cls ≠ "java/lang/invoke/MethodHandle" ∧ yX8_init.cls ≠ "java/lang/invoke/VarHandle" ∧ (parseMethodDescriptor yX8_init.desc).map (fun d => d.parameters.length) = some 0 := by decide +kernel
theorem hd_X8_isContent : yX8_isContent.cls ≠ "java/lang/invoke/MethodHandle" ∧ yX8_isContent.cls ≠ "java/lang/invoke/VarHandle" ∧ (parseMethodDescriptor yX8_isContent.desc).map (fun d => d.parameters.length) = some 2 := by decide +kernel
theorem hd_X8_isFact : yX8_isFact.cls ≠ "java/lang/invoke/MethodHandle" ∧ yX8_isFact.cls ≠ "java/lang/invoke/VarHandle" ∧ (parseMethodDescriptor yX8_isFact.desc).map (fun d => d.parameters.length) = some 1 := by decide +kernel
theorem hd_X8_isWithin : yX8_isWithin.cls ≠ "java/lang/invoke/MethodHandle" ∧ yX8_isWithin.cls ≠ "java/lang/invoke/VarHandle" ∧ (parseMethodDescriptor yX8_isWithin.desc).map (fun d => d.parameters.length) = some 3 := by decide +kernel
theorem hd_X8_judged : yX8_judged.cls = RX8 ∧ yX8_judged.cls ≠ "java/lang/invoke/MethodHandle" ∧ yX8_judged.cls ≠ "java/lang/invoke/VarHandle" ∧ (parseMethodDescriptor yX8_judged.desc).map (fun d => d.parameters.length) = some 1 := by decide +kernel
theorem hd_X8_lasts : yX8_lasts.cls = RX8 ∧ yX8_lasts.cls ≠ "java/lang/invoke/MethodHandle" ∧ yX8_lasts.cls ≠ "java/lang/invoke/VarHandle" ∧ (parseMethodDescriptor yX8_lasts.desc).map (fun d => d.parameters.length) = some 1 := by decide +kernel
theorem hd_X8_line : yX8_line.cls = RX8 ∧ yX8_line.cls ≠ "java/lang/invoke/MethodHandle" ∧ yX8_line.cls ≠ "java/lang/invoke/VarHandle" ∧ (parseMethodDescriptor yX8_line.desc).map (fun d => d.parameters.length) = some 2 := by decide +kernel
theorem hd_X8_lodging : yX8_lodging.cls = RX8 ∧ yX8_lodging.cls ≠ "java/lang/invoke/MethodHandle" ∧ yX8_lodging.cls ≠ "java/lang/invoke/VarHandle" ∧ (parseMethodDescriptor yX8_lodging.desc).map (fun d => d.parameters.length) = some 2 := by decide +kernel
theorem hd_X8_mark : yX8_mark.cls = RX8 ∧ yX8_mark.cls ≠ "java/lang/invoke/MethodHandle" ∧ yX8_mark.cls ≠ "java/lang/invoke/VarHandle" ∧ (parseMethodDescriptor yX8_mark.desc).map (fun d => d.parameters.length) = some 2 := by decide +kernel
theorem hd_X8_note : yX8_note.cls = RX8 ∧ yX8_note.cls ≠ "java/lang/invoke/MethodHandle" ∧ yX8_note.cls ≠ "java/lang/invoke/VarHandle" ∧ (parseMethodDescriptor yX8_note.desc).map (fun d => d.parameters.length) = some 2 := by decide +kernel
theorem hd_X8_pairs : yX8_pairs.cls = RX8 ∧ yX8_pairs.cls ≠ "java/lang/invoke/MethodHandle" ∧ yX8_pairs.cls ≠ "java/lang/invoke/VarHandle" ∧ (parseMethodDescriptor yX8_pairs.desc).map (fun d => d.parameters.length) = some 0 := by decide +kernel
theorem hd_X8_refuge : yX8_refuge.cls = RX8 ∧ yX8_refuge.cls ≠ "java/lang/invoke/MethodHandle" ∧ yX8_refuge.cls ≠ "java/lang/invoke/VarHandle" ∧ (parseMethodDescriptor yX8_refuge.desc).map (fun d => d.parameters.length) = some 1 := by decide +kernel
theorem hd_X8_remember : yX8_remember.cls = RX8 ∧ yX8_remember.cls ≠ "java/lang/invoke/MethodHandle" ∧ yX8_remember.cls ≠ "java/lang/invoke/VarHandle" ∧ (parseMethodDescriptor yX8_remember.desc).map (fun d => d.parameters.length) = some 0 := by decide +kernel
theorem hd_X8_rests : yX8_rests.cls = RX8 ∧ yX8_rests.cls ≠ "java/lang/invoke/MethodHandle" ∧ yX8_rests.cls ≠ "java/lang/invoke/VarHandle" ∧ (parseMethodDescriptor yX8_rests.desc).map (fun d => d.parameters.length) = some 4 := by decide +kernel
theorem hd_X8_sacks : yX8_sacks.cls = RX8 ∧ yX8_sacks.cls ≠ "java/lang/invoke/MethodHandle" ∧ yX8_sacks.cls ≠ "java/lang/invoke/VarHandle" ∧ (parseMethodDescriptor yX8_sacks.desc).map (fun d => d.parameters.length) = some 2 := by decide +kernel
theorem hd_X8_safe : yX8_safe.cls = RX8 ∧ yX8_safe.cls ≠ "java/lang/invoke/MethodHandle" ∧ yX8_safe.cls ≠ "java/lang/invoke/VarHandle" ∧ (parseMethodDescriptor yX8_safe.desc).map (fun d => d.parameters.length) = some 1 := by decide +kernel
theorem hd_X8_terrace : yX8_terrace.cls = RX8 ∧ yX8_terrace.cls ≠ "java/lang/invoke/MethodHandle" ∧ yX8_terrace.cls ≠ "java/lang/invoke/VarHandle" ∧ (parseMethodDescriptor yX8_terrace.desc).map (fun d => d.parameters.length) = some 0 := by decide +kernel
theorem hd_X8_through : yX8_through.cls = RX8 ∧ yX8_through.cls ≠ "java/lang/invoke/MethodHandle" ∧ yX8_through.cls ≠ "java/lang/invoke/VarHandle" ∧ (parseMethodDescriptor yX8_through.desc).map (fun d => d.parameters.length) = some 2 := by decide +kernel
theorem hd_X8_undo : yX8_undo.cls = RX8 ∧ yX8_undo.cls ≠ "java/lang/invoke/MethodHandle" ∧ yX8_undo.cls ≠ "java/lang/invoke/VarHandle" ∧ (parseMethodDescriptor yX8_undo.desc).map (fun d => d.parameters.length) = some 0 := by decide +kernel
theorem hd_X8_up : yX8_up.cls = RX8 ∧ yX8_up.cls ≠ "java/lang/invoke/MethodHandle" ∧ yX8_up.cls ≠ "java/lang/invoke/VarHandle" ∧ (parseMethodDescriptor yX8_up.desc).map (fun d => d.parameters.length) = some 1 := by decide +kernel
theorem hd_X8_winter : yX8_winter.cls = RX8 ∧ yX8_winter.cls ≠ "java/lang/invoke/MethodHandle" ∧ yX8_winter.cls ≠ "java/lang/invoke/VarHandle" ∧ (parseMethodDescriptor yX8_winter.desc).map (fun d => d.parameters.length) = some 0 := by decide +kernel
theorem hd_X8_winters : yX8_winters.cls = RX8 ∧ yX8_winters.cls ≠ "java/lang/invoke/MethodHandle" ∧ yX8_winters.cls ≠ "java/lang/invoke/VarHandle" ∧ (parseMethodDescriptor yX8_winters.desc).map (fun d => d.parameters.length) = some 3 := by decide +kernel
theorem hd_X9_allCoal : yX9_allCoal.cls = RX9 ∧ yX9_allCoal.cls ≠ "java/lang/invoke/MethodHandle" ∧ yX9_allCoal.cls ≠ "java/lang/invoke/VarHandle" ∧ (parseMethodDescriptor yX9_allCoal.desc).map (fun d => d.parameters.length) = some 0 := by decide +kernel
theorem hd_X9_areAtWar : yX9_areAtWar.cls = RX9 ∧ yX9_areAtWar.cls ≠ "java/lang/invoke/MethodHandle" ∧ yX9_areAtWar.cls ≠ "java/lang/invoke/VarHandle" ∧ (parseMethodDescriptor yX9_areAtWar.desc).map (fun d => d.parameters.length) = some 2 := by decide +kernel
theorem hd_X9_ask : yX9_ask.cls = RX9 ∧ yX9_ask.cls ≠ "java/lang/invoke/MethodHandle" ∧ yX9_ask.cls ≠ "java/lang/invoke/VarHandle" ∧ (parseMethodDescriptor yX9_ask.desc).map (fun d => d.parameters.length) = some 0 := by decide +kernel
theorem hd_X9_begins : yX9_begins.cls = RX9 ∧ yX9_begins.cls ≠ "java/lang/invoke/MethodHandle" ∧ yX9_begins.cls ≠ "java/lang/invoke/VarHandle" ∧ (parseMethodDescriptor yX9_begins.desc).map (fun d => d.parameters.length) = some 0 := by decide +kernel
theorem hd_X9_bits : yX9_bits.cls ≠ "java/lang/invoke/MethodHandle" ∧ yX9_bits.cls ≠ "java/lang/invoke/VarHandle" ∧ (parseMethodDescriptor yX9_bits.desc).map (fun d => d.parameters.length) = some 1 := by decide +kernel
theorem hd_X9_bring : yX9_bring.cls = RX9 ∧ yX9_bring.cls ≠ "java/lang/invoke/MethodHandle" ∧ yX9_bring.cls ≠ "java/lang/invoke/VarHandle" ∧ (parseMethodDescriptor yX9_bring.desc).map (fun d => d.parameters.length) = some 1 := by decide +kernel
theorem hd_X9_brings : yX9_brings.cls = RX9 ∧ yX9_brings.cls ≠ "java/lang/invoke/MethodHandle" ∧ yX9_brings.cls ≠ "java/lang/invoke/VarHandle" ∧ (parseMethodDescriptor yX9_brings.desc).map (fun d => d.parameters.length) = some 1 := by decide +kernel
theorem hd_X9_canCross : yX9_canCross.cls = RX9 ∧ yX9_canCross.cls ≠ "java/lang/invoke/MethodHandle" ∧ yX9_canCross.cls ≠ "java/lang/invoke/VarHandle" ∧ (parseMethodDescriptor yX9_canCross.desc).map (fun d => d.parameters.length) = some 2 := by decide +kernel
theorem hd_X9_canDown : yX9_canDown.cls = RX9 ∧ yX9_canDown.cls ≠ "java/lang/invoke/MethodHandle" ∧ yX9_canDown.cls ≠ "java/lang/invoke/VarHandle" ∧ (parseMethodDescriptor yX9_canDown.desc).map (fun d => d.parameters.length) = some 2 := by decide +kernel
theorem hd_X9_closes : yX9_closes.cls = RX9 ∧ yX9_closes.cls ≠ "java/lang/invoke/MethodHandle" ∧ yX9_closes.cls ≠ "java/lang/invoke/VarHandle" ∧ (parseMethodDescriptor yX9_closes.desc).map (fun d => d.parameters.length) = some 0 := by decide +kernel
theorem hd_X9_coals : yX9_coals.cls = RX9 ∧ yX9_coals.cls ≠ "java/lang/invoke/MethodHandle" ∧ yX9_coals.cls ≠ "java/lang/invoke/VarHandle" ∧ (parseMethodDescriptor yX9_coals.desc).map (fun d => d.parameters.length) = some 1 := by decide +kernel
theorem hd_X9_coldOf : yX9_coldOf.cls = RX9 ∧ yX9_coldOf.cls ≠ "java/lang/invoke/MethodHandle" ∧ yX9_coldOf.cls ≠ "java/lang/invoke/VarHandle" ∧ (parseMethodDescriptor yX9_coldOf.desc).map (fun d => d.parameters.length) = some 1 := by decide +kernel
theorem hd_X9_colder : yX9_colder.cls = RX9 ∧ yX9_colder.cls ≠ "java/lang/invoke/MethodHandle" ∧ yX9_colder.cls ≠ "java/lang/invoke/VarHandle" ∧ (parseMethodDescriptor yX9_colder.desc).map (fun d => d.parameters.length) = some 2 := by decide +kernel
theorem hd_X9_copies : yX9_copies.cls ≠ "java/lang/invoke/MethodHandle" ∧ yX9_copies.cls ≠ "java/lang/invoke/VarHandle" ∧ (parseMethodDescriptor yX9_copies.desc).map (fun d => d.parameters.length) = some 4 := by decide +kernel
theorem hd_X9_count : yX9_count.cls = RX9 ∧ yX9_count.cls ≠ "java/lang/invoke/MethodHandle" ∧ yX9_count.cls ≠ "java/lang/invoke/VarHandle" ∧ (parseMethodDescriptor yX9_count.desc).map (fun d => d.parameters.length) = some 1 := by decide +kernel
theorem hd_X9_day : yX9_day.cls = RX9 ∧ yX9_day.cls ≠ "java/lang/invoke/MethodHandle" ∧ yX9_day.cls ≠ "java/lang/invoke/VarHandle" ∧ (parseMethodDescriptor yX9_day.desc).map (fun d => d.parameters.length) = some 0 := by decide +kernel
theorem hd_X9_down : yX9_down.cls = RX9 ∧ yX9_down.cls ≠ "java/lang/invoke/MethodHandle" ∧ yX9_down.cls ≠ "java/lang/invoke/VarHandle" ∧ (parseMethodDescriptor yX9_down.desc).map (fun d => d.parameters.length) = some 2 := by decide +kernel
theorem hd_X9_draws : yX9_draws.cls = RX9 ∧ yX9_draws.cls ≠ "java/lang/invoke/MethodHandle" ∧ yX9_draws.cls ≠ "java/lang/invoke/VarHandle" ∧ (parseMethodDescriptor yX9_draws.desc).map (fun d => d.parameters.length) = some 1 := by decide +kernel
theorem hd_X9_emptyIn : yX9_emptyIn.cls = RX9 ∧ yX9_emptyIn.cls ≠ "java/lang/invoke/MethodHandle" ∧ yX9_emptyIn.cls ≠ "java/lang/invoke/VarHandle" ∧ (parseMethodDescriptor yX9_emptyIn.desc).map (fun d => d.parameters.length) = some 2 := by decide +kernel
theorem hd_X9_fact : yX9_fact.cls = RX9 ∧ yX9_fact.cls ≠ "java/lang/invoke/MethodHandle" ∧ yX9_fact.cls ≠ "java/lang/invoke/VarHandle" ∧ (parseMethodDescriptor yX9_fact.desc).map (fun d => d.parameters.length) = some 0 := by decide +kernel
theorem hd_X9_fails : yX9_fails.cls = RX9 ∧ yX9_fails.cls ≠ "java/lang/invoke/MethodHandle" ∧ yX9_fails.cls ≠ "java/lang/invoke/VarHandle" ∧ (parseMethodDescriptor yX9_fails.desc).map (fun d => d.parameters.length) = some 1 := by decide +kernel
theorem hd_X9_feed : yX9_feed.cls = RX9 ∧ yX9_feed.cls ≠ "java/lang/invoke/MethodHandle" ∧ yX9_feed.cls ≠ "java/lang/invoke/VarHandle" ∧ (parseMethodDescriptor yX9_feed.desc).map (fun d => d.parameters.length) = some 3 := by decide +kernel
theorem hd_X9_foesIn : yX9_foesIn.cls = RX9 ∧ yX9_foesIn.cls ≠ "java/lang/invoke/MethodHandle" ∧ yX9_foesIn.cls ≠ "java/lang/invoke/VarHandle" ∧ (parseMethodDescriptor yX9_foesIn.desc).map (fun d => d.parameters.length) = some 2 := by decide +kernel
theorem hd_X9_foesOf : yX9_foesOf.cls = RX9 ∧ yX9_foesOf.cls ≠ "java/lang/invoke/MethodHandle" ∧ yX9_foesOf.cls ≠ "java/lang/invoke/VarHandle" ∧ (parseMethodDescriptor yX9_foesOf.desc).map (fun d => d.parameters.length) = some 1 := by decide +kernel
theorem hd_X9_fresh0 : yX9_fresh0.cls = RX9 ∧ yX9_fresh0.cls ≠ "java/lang/invoke/MethodHandle" ∧ yX9_fresh0.cls ≠ "java/lang/invoke/VarHandle" ∧ (parseMethodDescriptor yX9_fresh0.desc).map (fun d => d.parameters.length) = some 0 := by decide +kernel
theorem hd_X9_full : yX9_full.cls = RX9 ∧ yX9_full.cls ≠ "java/lang/invoke/MethodHandle" ∧ yX9_full.cls ≠ "java/lang/invoke/VarHandle" ∧ (parseMethodDescriptor yX9_full.desc).map (fun d => d.parameters.length) = some 0 := by decide +kernel
theorem hd_X9_getsBy : yX9_getsBy.cls ≠ "java/lang/invoke/MethodHandle" ∧ yX9_getsBy.cls ≠ "java/lang/invoke/VarHandle" ∧ (parseMethodDescriptor yX9_getsBy.desc).map (fun d => d.parameters.length) = some 5 := by decide +kernel
theorem hd_X9_goes : yX9_goes.cls = RX9 ∧ yX9_goes.cls ≠ "java/lang/invoke/MethodHandle" ∧ yX9_goes.cls ≠ "java/lang/invoke/VarHandle" ∧ (parseMethodDescriptor yX9_goes.desc).map (fun d => d.parameters.length) = some 1 := by decide +kernel
theorem hd_X9_goesOn : yX9_goesOn.cls = RX9 ∧ yX9_goesOn.cls ≠ "java/lang/invoke/MethodHandle" ∧ yX9_goesOn.cls ≠ "java/lang/invoke/VarHandle" ∧ (parseMethodDescriptor yX9_goesOn.desc).map (fun d => d.parameters.length) = some 1 := by decide +kernel
theorem hd_X9_guest : yX9_guest.cls = RX9 ∧ yX9_guest.cls ≠ "java/lang/invoke/MethodHandle" ∧ yX9_guest.cls ≠ "java/lang/invoke/VarHandle" ∧ (parseMethodDescriptor yX9_guest.desc).map (fun d => d.parameters.length) = some 2 := by decide +kernel
theorem hd_X9_guestNamed : yX9_guestNamed.cls = RX9 ∧ yX9_guestNamed.cls ≠ "java/lang/invoke/MethodHandle" ∧ yX9_guestNamed.cls ≠ "java/lang/invoke/VarHandle" ∧ (parseMethodDescriptor yX9_guestNamed.desc).map (fun d => d.parameters.length) = some 1 := by decide +kernel
theorem hd_X9_hear : yX9_hear.cls = RX9 ∧ yX9_hear.cls ≠ "java/lang/invoke/MethodHandle" ∧ yX9_hear.cls ≠ "java/lang/invoke/VarHandle" ∧ (parseMethodDescriptor yX9_hear.desc).map (fun d => d.parameters.length) = some 2 := by decide +kernel
theorem hd_X9_hole : yX9_hole.cls = RX9 ∧ yX9_hole.cls ≠ "java/lang/invoke/MethodHandle" ∧ yX9_hole.cls ≠ "java/lang/invoke/VarHandle" ∧ (parseMethodDescriptor yX9_hole.desc).map (fun d => d.parameters.length) = some 2 := by decide +kernel
theorem hd_X9_holeNamed : yX9_holeNamed.cls = RX9 ∧ yX9_holeNamed.cls ≠ "java/lang/invoke/MethodHandle" ∧ yX9_holeNamed.cls ≠ "java/lang/invoke/VarHandle" ∧ (parseMethodDescriptor yX9_holeNamed.desc).map (fun d => d.parameters.length) = some 1 := by decide +kernel
theorem hd_X9_init : yX9_init.cls = RX9 ∧ yX9_init.cls ≠ "java/lang/invoke/MethodHandle" ∧ yX9_init.cls ≠ "java/lang/invoke/VarHandle" ∧ (parseMethodDescriptor yX9_init.desc).map (fun d => d.parameters.length) = some 0 := by decide +kernel
theorem hd_X9_insideOf : yX9_insideOf.cls = RX9 ∧ yX9_insideOf.cls ≠ "java/lang/invoke/MethodHandle" ∧ yX9_insideOf.cls ≠ "java/lang/invoke/VarHandle" ∧ (parseMethodDescriptor yX9_insideOf.desc).map (fun d => d.parameters.length) = some 1 := by decide +kernel
theorem hd_X9_isAsHeard : yX9_isAsHeard.cls = RX9 ∧ yX9_isAsHeard.cls ≠ "java/lang/invoke/MethodHandle" ∧ yX9_isAsHeard.cls ≠ "java/lang/invoke/VarHandle" ∧ (parseMethodDescriptor yX9_isAsHeard.desc).map (fun d => d.parameters.length) = some 1 := by decide +kernel
theorem hd_X9_isGuest : yX9_isGuest.cls = RX9 ∧ yX9_isGuest.cls ≠ "java/lang/invoke/MethodHandle" ∧ yX9_isGuest.cls ≠ "java/lang/invoke/VarHandle" ∧ (parseMethodDescriptor yX9_isGuest.desc).map (fun d => d.parameters.length) = some 1 := by decide +kernel
theorem hd_X9_isHole : yX9_isHole.cls = RX9 ∧ yX9_isHole.cls ≠ "java/lang/invoke/MethodHandle" ∧ yX9_isHole.cls ≠ "java/lang/invoke/VarHandle" ∧ (parseMethodDescriptor yX9_isHole.desc).map (fun d => d.parameters.length) = some 1 := by decide +kernel
theorem hd_X9_isKept : yX9_isKept.cls = RX9 ∧ yX9_isKept.cls ≠ "java/lang/invoke/MethodHandle" ∧ yX9_isKept.cls ≠ "java/lang/invoke/VarHandle" ∧ (parseMethodDescriptor yX9_isKept.desc).map (fun d => d.parameters.length) = some 0 := by decide +kernel
theorem hd_X9_isOutside : yX9_isOutside.cls = RX9 ∧ yX9_isOutside.cls ≠ "java/lang/invoke/MethodHandle" ∧ yX9_isOutside.cls ≠ "java/lang/invoke/VarHandle" ∧ (parseMethodDescriptor yX9_isOutside.desc).map (fun d => d.parameters.length) = some 1 := by decide +kernel
theorem hd_X9_isSeized : yX9_isSeized.cls = RX9 ∧ yX9_isSeized.cls ≠ "java/lang/invoke/MethodHandle" ∧ yX9_isSeized.cls ≠ "java/lang/invoke/VarHandle" ∧ (parseMethodDescriptor yX9_isSeized.desc).map (fun d => d.parameters.length) = some 1 := by decide +kernel
theorem hd_X9_isSign : yX9_isSign.cls = RX9 ∧ yX9_isSign.cls ≠ "java/lang/invoke/MethodHandle" ∧ yX9_isSign.cls ≠ "java/lang/invoke/VarHandle" ∧ (parseMethodDescriptor yX9_isSign.desc).map (fun d => d.parameters.length) = some 1 := by decide +kernel
theorem hd_X9_isTakenBy : yX9_isTakenBy.cls = RX9 ∧ yX9_isTakenBy.cls ≠ "java/lang/invoke/MethodHandle" ∧ yX9_isTakenBy.cls ≠ "java/lang/invoke/VarHandle" ∧ (parseMethodDescriptor yX9_isTakenBy.desc).map (fun d => d.parameters.length) = some 2 := by decide +kernel
theorem hd_X9_isWord : yX9_isWord.cls = RX9 ∧ yX9_isWord.cls ≠ "java/lang/invoke/MethodHandle" ∧ yX9_isWord.cls ≠ "java/lang/invoke/VarHandle" ∧ (parseMethodDescriptor yX9_isWord.desc).map (fun d => d.parameters.length) = some 1 := by decide +kernel
theorem hd_X9_judged : yX9_judged.cls = RX9 ∧ yX9_judged.cls ≠ "java/lang/invoke/MethodHandle" ∧ yX9_judged.cls ≠ "java/lang/invoke/VarHandle" ∧ (parseMethodDescriptor yX9_judged.desc).map (fun d => d.parameters.length) = some 1 := by decide +kernel
theorem hd_X9_keeps : yX9_keeps.cls = RX9 ∧ yX9_keeps.cls ≠ "java/lang/invoke/MethodHandle" ∧ yX9_keeps.cls ≠ "java/lang/invoke/VarHandle" ∧ (parseMethodDescriptor yX9_keeps.desc).map (fun d => d.parameters.length) = some 0 := by decide +kernel
theorem hd_X9_lasts : yX9_lasts.cls = RX9 ∧ yX9_lasts.cls ≠ "java/lang/invoke/MethodHandle" ∧ yX9_lasts.cls ≠ "java/lang/invoke/VarHandle" ∧ (parseMethodDescriptor yX9_lasts.desc).map (fun d => d.parameters.length) = some 1 := by decide +kernel
theorem hd_X9_lays : yX9_lays.cls = RX9 ∧ yX9_lays.cls ≠ "java/lang/invoke/MethodHandle" ∧ yX9_lays.cls ≠ "java/lang/invoke/VarHandle" ∧ (parseMethodDescriptor yX9_lays.desc).map (fun d => d.parameters.length) = some 0 := by decide +kernel
theorem hd_X9_laysHeard : yX9_laysHeard.cls = RX9 ∧ yX9_laysHeard.cls ≠ "java/lang/invoke/MethodHandle" ∧ yX9_laysHeard.cls ≠ "java/lang/invoke/VarHandle" ∧ (parseMethodDescriptor yX9_laysHeard.desc).map (fun d => d.parameters.length) = some 2 := by decide +kernel
theorem hd_X9_laysLines : yX9_laysLines.cls = RX9 ∧ yX9_laysLines.cls ≠ "java/lang/invoke/MethodHandle" ∧ yX9_laysLines.cls ≠ "java/lang/invoke/VarHandle" ∧ (parseMethodDescriptor yX9_laysLines.desc).map (fun d => d.parameters.length) = some 2 := by decide +kernel
theorem hd_X9_leavesSome : yX9_leavesSome.cls = RX9 ∧ yX9_leavesSome.cls ≠ "java/lang/invoke/MethodHandle" ∧ yX9_leavesSome.cls ≠ "java/lang/invoke/VarHandle" ∧ (parseMethodDescriptor yX9_leavesSome.desc).map (fun d => d.parameters.length) = some 2 := by decide +kernel
theorem hd_X9_line : yX9_line.cls = RX9 ∧ yX9_line.cls ≠ "java/lang/invoke/MethodHandle" ∧ yX9_line.cls ≠ "java/lang/invoke/VarHandle" ∧ (parseMethodDescriptor yX9_line.desc).map (fun d => d.parameters.length) = some 2 := by decide +kernel
theorem hd_X9_livesDay : yX9_livesDay.cls = RX9 ∧ yX9_livesDay.cls ≠ "java/lang/invoke/MethodHandle" ∧ yX9_livesDay.cls ≠ "java/lang/invoke/VarHandle" ∧ (parseMethodDescriptor yX9_livesDay.desc).map (fun d => d.parameters.length) = some 0 := by decide +kernel
theorem hd_X9_lodges : yX9_lodges.cls = RX9 ∧ yX9_lodges.cls ≠ "java/lang/invoke/MethodHandle" ∧ yX9_lodges.cls ≠ "java/lang/invoke/VarHandle" ∧ (parseMethodDescriptor yX9_lodges.desc).map (fun d => d.parameters.length) = some 2 := by decide +kernel
theorem hd_X9_lodging : yX9_lodging.cls = RX9 ∧ yX9_lodging.cls ≠ "java/lang/invoke/MethodHandle" ∧ yX9_lodging.cls ≠ "java/lang/invoke/VarHandle" ∧ (parseMethodDescriptor yX9_lodging.desc).map (fun d => d.parameters.length) = some 2 := by decide +kernel
theorem hd_X9_mark : yX9_mark.cls = RX9 ∧ yX9_mark.cls ≠ "java/lang/invoke/MethodHandle" ∧ yX9_mark.cls ≠ "java/lang/invoke/VarHandle" ∧ (parseMethodDescriptor yX9_mark.desc).map (fun d => d.parameters.length) = some 2 := by decide +kernel
theorem hd_X9_needsBoth : yX9_needsBoth.cls = RX9 ∧ yX9_needsBoth.cls ≠ "java/lang/invoke/MethodHandle" ∧ yX9_needsBoth.cls ≠ "java/lang/invoke/VarHandle" ∧ (parseMethodDescriptor yX9_needsBoth.desc).map (fun d => d.parameters.length) = some 3 := by decide +kernel
theorem hd_X9_needsGuest : yX9_needsGuest.cls = RX9 ∧ yX9_needsGuest.cls ≠ "java/lang/invoke/MethodHandle" ∧ yX9_needsGuest.cls ≠ "java/lang/invoke/VarHandle" ∧ (parseMethodDescriptor yX9_needsGuest.desc).map (fun d => d.parameters.length) = some 0 := by decide +kernel
theorem hd_X9_needsHole : yX9_needsHole.cls = RX9 ∧ yX9_needsHole.cls ≠ "java/lang/invoke/MethodHandle" ∧ yX9_needsHole.cls ≠ "java/lang/invoke/VarHandle" ∧ (parseMethodDescriptor yX9_needsHole.desc).map (fun d => d.parameters.length) = some 1 := by decide +kernel
theorem hd_X9_needsNew : yX9_needsNew.cls = RX9 ∧ yX9_needsNew.cls ≠ "java/lang/invoke/MethodHandle" ∧ yX9_needsNew.cls ≠ "java/lang/invoke/VarHandle" ∧ (parseMethodDescriptor yX9_needsNew.desc).map (fun d => d.parameters.length) = some 0 := by decide +kernel
theorem hd_X9_needsNumber : yX9_needsNumber.cls = RX9 ∧ yX9_needsNumber.cls ≠ "java/lang/invoke/MethodHandle" ∧ yX9_needsNumber.cls ≠ "java/lang/invoke/VarHandle" ∧ (parseMethodDescriptor yX9_needsNumber.desc).map (fun d => d.parameters.length) = some 2 := by decide +kernel
theorem hd_X9_nextToken : yX9_nextToken.cls = RX9 ∧ yX9_nextToken.cls ≠ "java/lang/invoke/MethodHandle" ∧ yX9_nextToken.cls ≠ "java/lang/invoke/VarHandle" ∧ (parseMethodDescriptor yX9_nextToken.desc).map (fun d => d.parameters.length) = some 0 := by decide +kernel
theorem hd_X9_note : yX9_note.cls = RX9 ∧ yX9_note.cls ≠ "java/lang/invoke/MethodHandle" ∧ yX9_note.cls ≠ "java/lang/invoke/VarHandle" ∧ (parseMethodDescriptor yX9_note.desc).map (fun d => d.parameters.length) = some 2 := by decide +kernel
theorem hd_X9_opens : yX9_opens.cls = RX9 ∧ yX9_opens.cls ≠ "java/lang/invoke/MethodHandle" ∧ yX9_opens.cls ≠ "java/lang/invoke/VarHandle" ∧ (parseMethodDescriptor yX9_opens.desc).map (fun d => d.parameters.length) = some 1 := by decide +kernel
theorem hd_X9_outsiders : yX9_outsiders.cls = RX9 ∧ yX9_outsiders.cls ≠ "java/lang/invoke/MethodHandle" ∧ yX9_outsiders.cls ≠ "java/lang/invoke/VarHandle" ∧ (parseMethodDescriptor yX9_outsiders.desc).map (fun d => d.parameters.length) = some 0 := by decide +kernel
theorem hd_X9_pairs : yX9_pairs.cls = RX9 ∧ yX9_pairs.cls ≠ "java/lang/invoke/MethodHandle" ∧ yX9_pairs.cls ≠ "java/lang/invoke/VarHandle" ∧ (parseMethodDescriptor yX9_pairs.desc).map (fun d => d.parameters.length) = some 0 := by decide +kernel
theorem hd_X9_passes : yX9_passes.cls = RX9 ∧ yX9_passes.cls ≠ "java/lang/invoke/MethodHandle" ∧ yX9_passes.cls ≠ "java/lang/invoke/VarHandle" ∧ (parseMethodDescriptor yX9_passes.desc).map (fun d => d.parameters.length) = some 0 := by decide +kernel
theorem hd_X9_puts : yX9_puts.cls = RX9 ∧ yX9_puts.cls ≠ "java/lang/invoke/MethodHandle" ∧ yX9_puts.cls ≠ "java/lang/invoke/VarHandle" ∧ (parseMethodDescriptor yX9_puts.desc).map (fun d => d.parameters.length) = some 1 := by decide +kernel
theorem hd_X9_reads : yX9_reads.cls = RX9 ∧ yX9_reads.cls ≠ "java/lang/invoke/MethodHandle" ∧ yX9_reads.cls ≠ "java/lang/invoke/VarHandle" ∧ (parseMethodDescriptor yX9_reads.desc).map (fun d => d.parameters.length) = some 0 := by decide +kernel
theorem hd_X9_readsAll : yX9_readsAll.cls = RX9 ∧ yX9_readsAll.cls ≠ "java/lang/invoke/MethodHandle" ∧ yX9_readsAll.cls ≠ "java/lang/invoke/VarHandle" ∧ (parseMethodDescriptor yX9_readsAll.desc).map (fun d => d.parameters.length) = some 0 := by decide +kernel
theorem hd_X9_readsCold : yX9_readsCold.cls = RX9 ∧ yX9_readsCold.cls ≠ "java/lang/invoke/MethodHandle" ∧ yX9_readsCold.cls ≠ "java/lang/invoke/VarHandle" ∧ (parseMethodDescriptor yX9_readsCold.desc).map (fun d => d.parameters.length) = some 0 := by decide +kernel
theorem hd_X9_readsGuest : yX9_readsGuest.cls = RX9 ∧ yX9_readsGuest.cls ≠ "java/lang/invoke/MethodHandle" ∧ yX9_readsGuest.cls ≠ "java/lang/invoke/VarHandle" ∧ (parseMethodDescriptor yX9_readsGuest.desc).map (fun d => d.parameters.length) = some 0 := by decide +kernel
theorem hd_X9_readsHole : yX9_readsHole.cls = RX9 ∧ yX9_readsHole.cls ≠ "java/lang/invoke/MethodHandle" ∧ yX9_readsHole.cls ≠ "java/lang/invoke/VarHandle" ∧ (parseMethodDescriptor yX9_readsHole.desc).map (fun d => d.parameters.length) = some 0 := by decide +kernel
theorem hd_X9_readsLine : yX9_readsLine.cls = RX9 ∧ yX9_readsLine.cls ≠ "java/lang/invoke/MethodHandle" ∧ yX9_readsLine.cls ≠ "java/lang/invoke/VarHandle" ∧ (parseMethodDescriptor yX9_readsLine.desc).map (fun d => d.parameters.length) = some 0 := by decide +kernel
theorem hd_X9_readsSack : yX9_readsSack.cls = RX9 ∧ yX9_readsSack.cls ≠ "java/lang/invoke/MethodHandle" ∧ yX9_readsSack.cls ≠ "java/lang/invoke/VarHandle" ∧ (parseMethodDescriptor yX9_readsSack.desc).map (fun d => d.parameters.length) = some 0 := by decide +kernel
theorem hd_X9_readsTakes : yX9_readsTakes.cls = RX9 ∧ yX9_readsTakes.cls ≠ "java/lang/invoke/MethodHandle" ∧ yX9_readsTakes.cls ≠ "java/lang/invoke/VarHandle" ∧ (parseMethodDescriptor yX9_readsTakes.desc).map (fun d => d.parameters.length) = some 0 := by decide +kernel
theorem hd_X9_readsWall : yX9_readsWall.cls = RX9 ∧ yX9_readsWall.cls ≠ "java/lang/invoke/MethodHandle" ∧ yX9_readsWall.cls ≠ "java/lang/invoke/VarHandle" ∧ (parseMethodDescriptor yX9_readsWall.desc).map (fun d => d.parameters.length) = some 0 := by decide +kernel
theorem hd_X9_readsWar : yX9_readsWar.cls = RX9 ∧ yX9_readsWar.cls ≠ "java/lang/invoke/MethodHandle" ∧ yX9_readsWar.cls ≠ "java/lang/invoke/VarHandle" ∧ (parseMethodDescriptor yX9_readsWar.desc).map (fun d => d.parameters.length) = some 0 := by decide +kernel
theorem hd_X9_refuge : yX9_refuge.cls = RX9 ∧ yX9_refuge.cls ≠ "java/lang/invoke/MethodHandle" ∧ yX9_refuge.cls ≠ "java/lang/invoke/VarHandle" ∧ (parseMethodDescriptor yX9_refuge.desc).map (fun d => d.parameters.length) = some 1 := by decide +kernel
theorem hd_X9_rests : yX9_rests.cls = RX9 ∧ yX9_rests.cls ≠ "java/lang/invoke/MethodHandle" ∧ yX9_rests.cls ≠ "java/lang/invoke/VarHandle" ∧ (parseMethodDescriptor yX9_rests.desc).map (fun d => d.parameters.length) = some 4 := by decide +kernel
theorem hd_X9_sacks : yX9_sacks.cls = RX9 ∧ yX9_sacks.cls ≠ "java/lang/invoke/MethodHandle" ∧ yX9_sacks.cls ≠ "java/lang/invoke/VarHandle" ∧ (parseMethodDescriptor yX9_sacks.desc).map (fun d => d.parameters.length) = some 2 := by decide +kernel
theorem hd_X9_safe : yX9_safe.cls = RX9 ∧ yX9_safe.cls ≠ "java/lang/invoke/MethodHandle" ∧ yX9_safe.cls ≠ "java/lang/invoke/VarHandle" ∧ (parseMethodDescriptor yX9_safe.desc).map (fun d => d.parameters.length) = some 1 := by decide +kernel
theorem hd_X9_safeFor : yX9_safeFor.cls = RX9 ∧ yX9_safeFor.cls ≠ "java/lang/invoke/MethodHandle" ∧ yX9_safeFor.cls ≠ "java/lang/invoke/VarHandle" ∧ (parseMethodDescriptor yX9_safeFor.desc).map (fun d => d.parameters.length) = some 1 := by decide +kernel
theorem hd_X9_shifts : yX9_shifts.cls ≠ "java/lang/invoke/MethodHandle" ∧ yX9_shifts.cls ≠ "java/lang/invoke/VarHandle" ∧ (parseMethodDescriptor yX9_shifts.desc).map (fun d => d.parameters.length) = some 2 := by decide +kernel
theorem hd_X9_shiftsNames : yX9_shiftsNames.cls ≠ "java/lang/invoke/MethodHandle" ∧ yX9_shiftsNames.cls ≠ "java/lang/invoke/VarHandle" ∧ (parseMethodDescriptor yX9_shiftsNames.desc).map (fun d => d.parameters.length) = some 1 := by decide +kernel
theorem hd_X9_signAt : yX9_signAt.cls = RX9 ∧ yX9_signAt.cls ≠ "java/lang/invoke/MethodHandle" ∧ yX9_signAt.cls ≠ "java/lang/invoke/VarHandle" ∧ (parseMethodDescriptor yX9_signAt.desc).map (fun d => d.parameters.length) = some 1 := by decide +kernel
theorem hd_X9_stocks : yX9_stocks.cls = RX9 ∧ yX9_stocks.cls ≠ "java/lang/invoke/MethodHandle" ∧ yX9_stocks.cls ≠ "java/lang/invoke/VarHandle" ∧ (parseMethodDescriptor yX9_stocks.desc).map (fun d => d.parameters.length) = some 3 := by decide +kernel
theorem hd_X9_sums : yX9_sums.cls = RX9 ∧ yX9_sums.cls ≠ "java/lang/invoke/MethodHandle" ∧ yX9_sums.cls ≠ "java/lang/invoke/VarHandle" ∧ (parseMethodDescriptor yX9_sums.desc).map (fun d => d.parameters.length) = some 1 := by decide +kernel
theorem hd_X9_terrace : yX9_terrace.cls = RX9 ∧ yX9_terrace.cls ≠ "java/lang/invoke/MethodHandle" ∧ yX9_terrace.cls ≠ "java/lang/invoke/VarHandle" ∧ (parseMethodDescriptor yX9_terrace.desc).map (fun d => d.parameters.length) = some 0 := by decide +kernel
theorem hd_X9_tests : yX9_tests.cls = RX9 ∧ yX9_tests.cls ≠ "java/lang/invoke/MethodHandle" ∧ yX9_tests.cls ≠ "java/lang/invoke/VarHandle" ∧ (parseMethodDescriptor yX9_tests.desc).map (fun d => d.parameters.length) = some 1 := by decide +kernel
theorem hd_X9_through : yX9_through.cls = RX9 ∧ yX9_through.cls ≠ "java/lang/invoke/MethodHandle" ∧ yX9_through.cls ≠ "java/lang/invoke/VarHandle" ∧ (parseMethodDescriptor yX9_through.desc).map (fun d => d.parameters.length) = some 2 := by decide +kernel
theorem hd_X9_thrown : yX9_thrown.cls = RX9 ∧ yX9_thrown.cls ≠ "java/lang/invoke/MethodHandle" ∧ yX9_thrown.cls ≠ "java/lang/invoke/VarHandle" ∧ (parseMethodDescriptor yX9_thrown.desc).map (fun d => d.parameters.length) = some 0 := by decide +kernel
theorem hd_X9_undo : yX9_undo.cls = RX9 ∧ yX9_undo.cls ≠ "java/lang/invoke/MethodHandle" ∧ yX9_undo.cls ≠ "java/lang/invoke/VarHandle" ∧ (parseMethodDescriptor yX9_undo.desc).map (fun d => d.parameters.length) = some 0 := by decide +kernel
theorem hd_X9_up : yX9_up.cls = RX9 ∧ yX9_up.cls ≠ "java/lang/invoke/MethodHandle" ∧ yX9_up.cls ≠ "java/lang/invoke/VarHandle" ∧ (parseMethodDescriptor yX9_up.desc).map (fun d => d.parameters.length) = some 1 := by decide +kernel
theorem hd_X9_usual : yX9_usual.cls = RX9 ∧ yX9_usual.cls ≠ "java/lang/invoke/MethodHandle" ∧ yX9_usual.cls ≠ "java/lang/invoke/VarHandle" ∧ (parseMethodDescriptor yX9_usual.desc).map (fun d => d.parameters.length) = some 1 := by decide +kernel
theorem hd_X9_winter : yX9_winter.cls = RX9 ∧ yX9_winter.cls ≠ "java/lang/invoke/MethodHandle" ∧ yX9_winter.cls ≠ "java/lang/invoke/VarHandle" ∧ (parseMethodDescriptor yX9_winter.desc).map (fun d => d.parameters.length) = some 0 := by decide +kernel
theorem hd_X9_winters : yX9_winters.cls = RX9 ∧ yX9_winters.cls ≠ "java/lang/invoke/MethodHandle" ∧ yX9_winters.cls ≠ "java/lang/invoke/VarHandle" ∧ (parseMethodDescriptor yX9_winters.desc).map (fun d => d.parameters.length) = some 3 := by decide +kernel
theorem hd_X9_within : yX9_within.cls ≠ "java/lang/invoke/MethodHandle" ∧ yX9_within.cls ≠ "java/lang/invoke/VarHandle" ∧ (parseMethodDescriptor yX9_within.desc).map (fun d => d.parameters.length) = some 3 := by decide +kernel
theorem hd_X9_worked : yX9_worked.cls = RX9 ∧ yX9_worked.cls ≠ "java/lang/invoke/MethodHandle" ∧ yX9_worked.cls ≠ "java/lang/invoke/VarHandle" ∧ (parseMethodDescriptor yX9_worked.desc).map (fun d => d.parameters.length) = some 1 := by decide +kernel
