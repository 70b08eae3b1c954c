theorem kt_1_0 : Jvm.Cond.initialized "MoonlitFloorLaw" ∈ sg_T := sg_in1 0 rfl rfl
theorem kt_1_1 : Jvm.Cond.initialized "MoonlitFloor" ∈ sg_T := sg_in1 1 rfl rfl
theorem kt_1_2 : Jvm.Cond.initialized "java/lang/AbstractStringBuilder" ∈ sg_T := sg_in1 2 rfl rfl
theorem kt_1_3 : Jvm.Cond.initialized "java/lang/StringBuilder" ∈ sg_T := sg_in1 3 rfl rfl
theorem kt_1_4 : Jvm.Cond.initialized "java/lang/String" ∈ sg_T := sg_in1 4 rfl rfl
theorem kt_1_5 : Jvm.Cond.initialized "java/lang/StringUTF16" ∈ sg_T := sg_in1 5 rfl rfl
theorem kt_1_6 : Jvm.Cond.initialized "MoonlitFloor$World" ∈ sg_T := sg_in1 6 rfl rfl
theorem kt_1_7 : Jvm.Cond.initialized "MoonlitFloor$Plan" ∈ sg_T := sg_in1 7 rfl rfl
theorem kt_1_8 : Jvm.Cond.initialized "MoonlitFloor$Walker" ∈ sg_T := sg_in1 8 rfl rfl
theorem kt_1_9 : Jvm.Cond.initialized "MoonlitFloor$Records" ∈ sg_T := sg_in1 9 rfl rfl
theorem kt_1_10 : Jvm.Cond.initialized "MoonlitFloor$SetupReader" ∈ sg_T := sg_in1 10 rfl rfl
theorem kt_1_11 : Jvm.Cond.initialized "MoonlitFloor$Tokens" ∈ sg_T := sg_in1 11 rfl rfl
theorem kt_1_12 : Jvm.Cond.initialized "MoonlitFloor$History" ∈ sg_T := sg_in1 12 rfl rfl
theorem kt_1_13 : Jvm.Cond.initialized "MoonlitFloorLaw$Floor" ∈ sg_T := sg_in1 13 rfl rfl
theorem kt_1_14 : Jvm.Cond.initialized "java/util/AbstractCollection" ∈ sg_T := sg_in1 14 rfl rfl
theorem kt_1_15 : Jvm.Cond.initialized "java/util/AbstractList" ∈ sg_T := sg_in1 15 rfl rfl
theorem kt_1_16 : Jvm.Cond.initialized "java/util/ArrayList" ∈ sg_T := sg_in1 16 rfl rfl
theorem kt_1_17 : Jvm.Cond.initialized "jdk/internal/util/ArraysSupport" ∈ sg_T := sg_in1 17 rfl rfl
theorem kt_1_18 : Jvm.Cond.initialized "java/lang/Math" ∈ sg_T := sg_in1 18 rfl rfl
theorem kt_1_19 : Jvm.Cond.initialized "java/util/Arrays" ∈ sg_T := sg_in1 19 rfl rfl
theorem kt_1_20 : Jvm.Cond.initialized "java/lang/System" ∈ sg_T := sg_in1 20 rfl rfl
theorem kt_1_21 : Jvm.Cond.initialized "jdk/internal/util/Preconditions" ∈ sg_T := sg_in1 21 rfl rfl
theorem kt_1_22 : Jvm.Cond.initialized "java/lang/StringLatin1" ∈ sg_T := sg_in1 22 rfl rfl
theorem kt_1_23 : Jvm.Cond.initialized "java/lang/Number" ∈ sg_T := sg_in1 23 rfl rfl
theorem kt_1_24 : Jvm.Cond.initialized "java/lang/Integer" ∈ sg_T := sg_in1 24 rfl rfl
theorem kt_1_25 : Jvm.Cond.initialized "java/util/Objects" ∈ sg_T := sg_in1 25 rfl rfl
theorem kt_1_26 : Jvm.Cond.initialized "java/lang/Throwable" ∈ sg_T := sg_in1 26 rfl rfl
theorem kt_1_27 : Jvm.Cond.initialized "java/lang/Exception" ∈ sg_T := sg_in1 27 rfl rfl
theorem kt_1_28 : Jvm.Cond.initialized "java/lang/RuntimeException" ∈ sg_T := sg_in1 28 rfl rfl
theorem kt_1_29 : Jvm.Cond.initialized "java/lang/IndexOutOfBoundsException" ∈ sg_T := sg_in1 29 rfl rfl
theorem kt_1_30 : Jvm.Cond.initialized "java/lang/Enum" ∈ sg_T := sg_in1 30 rfl rfl
theorem kt_1_31 : Jvm.Cond.initialized "MoonlitFloor$Sign" ∈ sg_T := sg_in1 31 rfl rfl
theorem kt_1_32 : Jvm.Cond.initialized "MoonlitFloor$1" ∈ sg_T := sg_in1 32 rfl rfl
theorem kt_1_33 : Jvm.Cond.initialized "java/lang/IllegalArgumentException" ∈ sg_T := sg_in1 33 rfl rfl
theorem kt_1_34 : Jvm.Cond.initialized "java/lang/IllegalStateException" ∈ sg_T := sg_in1 34 rfl rfl
theorem kt_1_35 : Jvm.Cond.initialized "jdk/internal/misc/Unsafe" ∈ sg_T := sg_in1 35 rfl rfl
theorem kt_1_36 : Jvm.Cond.initialized "jdk/internal/misc/UnsafeConstants" ∈ sg_T := sg_in1 36 rfl rfl
theorem kt_1_37 : Jvm.Cond.initialized "java/lang/Long" ∈ sg_T := sg_in1 37 rfl rfl
theorem kt_1_38 : Jvm.Cond.classLink "MoonlitFloorLaw" (14 : Nat) "MoonlitFloor" ∈ sg_T := sg_in1 38 rfl rfl
theorem kt_1_39 : Jvm.Cond.instantiable "MoonlitFloor" (8 : Nat) ∈ sg_T := sg_in1 39 rfl rfl
theorem kt_1_40 : Jvm.Cond.methodLink "MoonlitFloorLaw" (300 : Nat) ({ cls := "MoonlitFloor", name := "<init>", desc := "()V" } : Jvm.MethodName) ∈ sg_T := sg_in1 40 rfl rfl
theorem kt_1_41 : Jvm.Cond.instanceMethod ({ cls := "MoonlitFloor", name := "<init>", desc := "()V" } : Jvm.MethodName) ∈ sg_T := sg_in1 41 rfl rfl
theorem kt_1_42 : Jvm.Cond.code ({ cls := "MoonlitFloor", name := "<init>", desc := "()V" } : Jvm.MethodName) prog_1_method_1_code (1 : Nat) (Option.none : Option Jvm.ClassFile.FieldType) ∈ sg_T := sg_in1 42 rfl rfl
theorem kt_1_43 : Jvm.Cond.methodLink "MoonlitFloor" (1 : Nat) ({ cls := "java/lang/Object", name := "<init>", desc := "()V" } : Jvm.MethodName) ∈ sg_T := sg_in1 43 rfl rfl
theorem kt_1_44 : Jvm.Cond.instanceMethod ({ cls := "java/lang/Object", name := "<init>", desc := "()V" } : Jvm.MethodName) ∈ sg_T := sg_in1 44 rfl rfl
theorem kt_1_45 : Jvm.Cond.code ({ cls := "java/lang/Object", name := "<init>", desc := "()V" } : Jvm.MethodName) object_method_1_code (1 : Nat) (Option.none : Option Jvm.ClassFile.FieldType) ∈ sg_T := sg_in1 45 rfl rfl
theorem kt_1_46 : Jvm.Cond.classLink "MoonlitFloor" (13 : Nat) "java/lang/StringBuilder" ∈ sg_T := sg_in1 46 rfl rfl
theorem kt_1_47 : Jvm.Cond.instantiable "java/lang/StringBuilder" (4 : Nat) ∈ sg_T := sg_in1 47 rfl rfl
theorem kt_1_48 : Jvm.Cond.methodLink "MoonlitFloor" (15 : Nat) ({ cls := "java/lang/StringBuilder", name := "<init>", desc := "()V" } : Jvm.MethodName) ∈ sg_T := sg_in1 48 rfl rfl
theorem kt_1_49 : Jvm.Cond.instanceMethod ({ cls := "java/lang/StringBuilder", name := "<init>", desc := "()V" } : Jvm.MethodName) ∈ sg_T := sg_in1 49 rfl rfl
theorem kt_1_50 : Jvm.Cond.code ({ cls := "java/lang/StringBuilder", name := "<init>", desc := "()V" } : Jvm.MethodName) prog_32_method_1_code (1 : Nat) (Option.none : Option Jvm.ClassFile.FieldType) ∈ sg_T := sg_in1 50 rfl rfl
theorem kt_1_51 : Jvm.Cond.methodLink "java/lang/StringBuilder" (1 : Nat) ({ cls := "java/lang/AbstractStringBuilder", name := "<init>", desc := "(I)V" } : Jvm.MethodName) ∈ sg_T := sg_in1 51 rfl rfl
theorem kt_1_52 : Jvm.Cond.instanceMethod ({ cls := "java/lang/AbstractStringBuilder", name := "<init>", desc := "(I)V" } : Jvm.MethodName) ∈ sg_T := sg_in1 52 rfl rfl
theorem kt_1_53 : Jvm.Cond.code ({ cls := "java/lang/AbstractStringBuilder", name := "<init>", desc := "(I)V" } : Jvm.MethodName) prog_15_method_2_code (2 : Nat) (Option.none : Option Jvm.ClassFile.FieldType) ∈ sg_T := sg_in1 53 rfl rfl
theorem kt_1_54 : Jvm.Cond.methodLink "java/lang/AbstractStringBuilder" (3 : Nat) ({ cls := "java/lang/Object", name := "<init>", desc := "()V" } : Jvm.MethodName) ∈ sg_T := sg_in1 54 rfl rfl
theorem kt_1_55 : Jvm.Cond.fieldLink "java/lang/AbstractStringBuilder" (18 : Nat) "java/lang/String" "COMPACT_STRINGS" "Z" ∈ sg_T := sg_in1 55 rfl rfl
theorem kt_1_57 : Jvm.Cond.methodLink "java/lang/AbstractStringBuilder" (26 : Nat) ({ cls := "java/lang/StringUTF16", name := "newBytesFor", desc := "(I)[B" } : Jvm.MethodName) ∈ sg_T := sg_in1 57 rfl rfl
theorem kt_1_58 : Jvm.Cond.static ({ cls := "java/lang/StringUTF16", name := "newBytesFor", desc := "(I)[B" } : Jvm.MethodName) ∈ sg_T := sg_in1 58 rfl rfl
theorem kt_1_59 : Jvm.Cond.code ({ cls := "java/lang/StringUTF16", name := "newBytesFor", desc := "(I)[B" } : Jvm.MethodName) prog_34_method_2_code (1 : Nat) (Option.some (Jvm.ClassFile.FieldType.array Jvm.ClassFile.FieldType.byte)) ∈ sg_T := sg_in1 59 rfl rfl
theorem kt_1_60 : Jvm.Cond.methodLink "java/lang/StringUTF16" (11 : Nat) ({ cls := "java/lang/StringUTF16", name := "newBytesLength", desc := "(I)I" } : Jvm.MethodName) ∈ sg_T := sg_in1 60 rfl rfl
theorem kt_1_61 : Jvm.Cond.static ({ cls := "java/lang/StringUTF16", name := "newBytesLength", desc := "(I)I" } : Jvm.MethodName) ∈ sg_T := sg_in1 61 rfl rfl
theorem kt_1_62 : Jvm.Cond.code ({ cls := "java/lang/StringUTF16", name := "newBytesLength", desc := "(I)I" } : Jvm.MethodName) prog_34_method_3_code (1 : Nat) (Option.some Jvm.ClassFile.FieldType.int) ∈ sg_T := sg_in1 62 rfl rfl
theorem kt_1_63 : Jvm.Cond.constant "java/lang/StringUTF16" (20 : Nat) (1073741823 : Int32) ∈ sg_T := sg_in1 63 rfl rfl
theorem kt_1_64 : Jvm.Cond.fieldLink "java/lang/AbstractStringBuilder" (15 : Nat) "java/lang/AbstractStringBuilder" "value" "[B" ∈ sg_T := sg_in1 64 rfl rfl
theorem kt_1_65 : Jvm.Cond.fieldLink "java/lang/AbstractStringBuilder" (22 : Nat) "java/lang/AbstractStringBuilder" "coder" "B" ∈ sg_T := sg_in1 65 rfl rfl
theorem kt_1_66 : Jvm.Cond.fieldLink "java/lang/String" (1048 : Nat) "java/lang/AbstractStringBuilder" "maybeLatin1" "Z" ∈ sg_T := sg_in1 66 rfl rfl
theorem kt_1_67 : Jvm.Cond.fieldLink "java/lang/AbstractStringBuilder" (79 : Nat) "java/lang/AbstractStringBuilder" "count" "I" ∈ sg_T := sg_in1 67 rfl rfl
theorem kt_1_68 : Jvm.Cond.lays "java/lang/StringBuilder" "java/lang/AbstractStringBuilder" "value" "[B" ∈ sg_T := sg_in1 68 rfl rfl
theorem kt_1_69 : Jvm.Cond.soleField "java/lang/AbstractStringBuilder" "value" ∈ sg_T := sg_in1 69 rfl rfl
theorem kt_1_70 : Jvm.Cond.lays "java/lang/StringBuilder" "java/lang/AbstractStringBuilder" "coder" "B" ∈ sg_T := sg_in1 70 rfl rfl
theorem kt_1_71 : Jvm.Cond.soleField "java/lang/AbstractStringBuilder" "coder" ∈ sg_T := sg_in1 71 rfl rfl
theorem kt_1_72 : Jvm.Cond.lays "java/lang/StringBuilder" "java/lang/AbstractStringBuilder" "maybeLatin1" "Z" ∈ sg_T := sg_in1 72 rfl rfl
theorem kt_1_73 : Jvm.Cond.soleField "java/lang/AbstractStringBuilder" "maybeLatin1" ∈ sg_T := sg_in1 73 rfl rfl
theorem kt_1_74 : Jvm.Cond.lays "java/lang/StringBuilder" "java/lang/AbstractStringBuilder" "count" "I" ∈ sg_T := sg_in1 74 rfl rfl
theorem kt_1_75 : Jvm.Cond.soleField "java/lang/AbstractStringBuilder" "count" ∈ sg_T := sg_in1 75 rfl rfl
theorem kt_1_76 : Jvm.Cond.superclass "java/lang/StringBuilder" "java/lang/AbstractStringBuilder" ∈ sg_T := sg_in1 76 rfl rfl
theorem kt_1_77 : Jvm.Cond.arrayClass Jvm.ClassFile.FieldType.int ∈ sg_T := sg_in1 77 rfl rfl
theorem kt_1_78 : Jvm.Cond.arrayClass Jvm.ClassFile.FieldType.byte ∈ sg_T := sg_in1 78 rfl rfl
theorem kt_1_79 : Jvm.Cond.classLink "MoonlitFloor" (20 : Nat) "MoonlitFloor$World" ∈ sg_T := sg_in1 79 rfl rfl
theorem kt_1_80 : Jvm.Cond.instantiable "MoonlitFloor$World" (14 : Nat) ∈ sg_T := sg_in1 80 rfl rfl
theorem kt_1_82 : Jvm.Cond.instanceMethod ({ cls := "MoonlitFloor$World", name := "<init>", desc := "()V" } : Jvm.MethodName) ∈ sg_T := sg_in1 82 rfl rfl
theorem kt_1_83 : Jvm.Cond.code ({ cls := "MoonlitFloor$World", name := "<init>", desc := "()V" } : Jvm.MethodName) prog_10_method_1_code (1 : Nat) (Option.none : Option Jvm.ClassFile.FieldType) ∈ sg_T := sg_in1 83 rfl rfl
theorem kt_1_84 : Jvm.Cond.methodLink "MoonlitFloor$World" (3 : Nat) ({ cls := "java/lang/Object", name := "<init>", desc := "()V" } : Jvm.MethodName) ∈ sg_T := sg_in1 84 rfl rfl
theorem kt_1_85 : Jvm.Cond.classLink "MoonlitFloor$World" (9 : Nat) "MoonlitFloor$Plan" ∈ sg_T := sg_in1 85 rfl rfl
theorem kt_1_86 : Jvm.Cond.instantiable "MoonlitFloor$Plan" (13 : Nat) ∈ sg_T := sg_in1 86 rfl rfl
theorem kt_1_88 : Jvm.Cond.instanceMethod ({ cls := "MoonlitFloor$Plan", name := "<init>", desc := "()V" } : Jvm.MethodName) ∈ sg_T := sg_in1 88 rfl rfl
theorem kt_1_89 : Jvm.Cond.code ({ cls := "MoonlitFloor$Plan", name := "<init>", desc := "()V" } : Jvm.MethodName) prog_4_method_1_code (1 : Nat) (Option.none : Option Jvm.ClassFile.FieldType) ∈ sg_T := sg_in1 89 rfl rfl
theorem kt_1_90 : Jvm.Cond.methodLink "MoonlitFloor$Plan" (3 : Nat) ({ cls := "java/lang/Object", name := "<init>", desc := "()V" } : Jvm.MethodName) ∈ sg_T := sg_in1 90 rfl rfl
theorem kt_1_91 : Jvm.Cond.fieldLink "MoonlitFloor$Plan" (9 : Nat) "MoonlitFloor$Plan" "draughts" "[I" ∈ sg_T := sg_in1 91 rfl rfl
theorem kt_1_92 : Jvm.Cond.fieldLink "MoonlitFloor$SetupReader" (252 : Nat) "MoonlitFloor$Plan" "draughts" "[I" ∈ sg_T := sg_in1 92 rfl rfl
theorem kt_1_93 : Jvm.Cond.fieldLink "MoonlitFloor$World" (254 : Nat) "MoonlitFloor$Plan" "draughts" "[I" ∈ sg_T := sg_in1 93 rfl rfl
theorem kt_1_94 : Jvm.Cond.fieldLink "MoonlitFloor$Plan" (15 : Nat) "MoonlitFloor$Plan" "cloudFirsts" "[I" ∈ sg_T := sg_in1 94 rfl rfl
theorem kt_1_95 : Jvm.Cond.fieldLink "MoonlitFloor$SetupReader" (255 : Nat) "MoonlitFloor$Plan" "cloudFirsts" "[I" ∈ sg_T := sg_in1 95 rfl rfl
theorem kt_1_96 : Jvm.Cond.fieldLink "MoonlitFloor$Plan" (18 : Nat) "MoonlitFloor$Plan" "cloudLasts" "[I" ∈ sg_T := sg_in1 96 rfl rfl
theorem kt_1_97 : Jvm.Cond.fieldLink "MoonlitFloor$SetupReader" (258 : Nat) "MoonlitFloor$Plan" "cloudLasts" "[I" ∈ sg_T := sg_in1 97 rfl rfl
theorem kt_1_98 : Jvm.Cond.fieldLink "MoonlitFloor$Plan" (21 : Nat) "MoonlitFloor$Plan" "route" "[I" ∈ sg_T := sg_in1 98 rfl rfl
theorem kt_1_99 : Jvm.Cond.fieldLink "MoonlitFloor$SetupReader" (249 : Nat) "MoonlitFloor$Plan" "route" "[I" ∈ sg_T := sg_in1 99 rfl rfl
theorem kt_1_100 : Jvm.Cond.fieldLink "MoonlitFloor$World" (176 : Nat) "MoonlitFloor$Plan" "route" "[I" ∈ sg_T := sg_in1 100 rfl rfl
theorem kt_1_101 : Jvm.Cond.fieldLink "MoonlitFloor$Plan" (30 : Nat) "MoonlitFloor$Plan" "rows" "I" ∈ sg_T := sg_in1 101 rfl rfl
theorem kt_1_102 : Jvm.Cond.fieldLink "MoonlitFloor$World" (92 : Nat) "MoonlitFloor$Plan" "rows" "I" ∈ sg_T := sg_in1 102 rfl rfl
theorem kt_1_103 : Jvm.Cond.fieldLink "MoonlitFloor$SetupReader" (121 : Nat) "MoonlitFloor$Plan" "rows" "I" ∈ sg_T := sg_in1 103 rfl rfl
theorem kt_1_104 : Jvm.Cond.fieldLink "MoonlitFloor$Plan" (34 : Nat) "MoonlitFloor$Plan" "columns" "I" ∈ sg_T := sg_in1 104 rfl rfl
theorem kt_1_105 : Jvm.Cond.fieldLink "MoonlitFloor$World" (95 : Nat) "MoonlitFloor$Plan" "columns" "I" ∈ sg_T := sg_in1 105 rfl rfl
theorem kt_1_106 : Jvm.Cond.fieldLink "MoonlitFloor$SetupReader" (126 : Nat) "MoonlitFloor$Plan" "columns" "I" ∈ sg_T := sg_in1 106 rfl rfl
theorem kt_1_107 : Jvm.Cond.fieldLink "MoonlitFloor" (106 : Nat) "MoonlitFloor$Plan" "columns" "I" ∈ sg_T := sg_in1 107 rfl rfl
theorem kt_1_108 : Jvm.Cond.fieldLink "MoonlitFloor$Plan" (37 : Nat) "MoonlitFloor$Plan" "minutesPerRow" "I" ∈ sg_T := sg_in1 108 rfl rfl
theorem kt_1_109 : Jvm.Cond.fieldLink "MoonlitFloor$World" (98 : Nat) "MoonlitFloor$Plan" "minutesPerRow" "I" ∈ sg_T := sg_in1 109 rfl rfl
theorem kt_1_110 : Jvm.Cond.fieldLink "MoonlitFloor$SetupReader" (178 : Nat) "MoonlitFloor$Plan" "minutesPerRow" "I" ∈ sg_T := sg_in1 110 rfl rfl
theorem kt_1_111 : Jvm.Cond.fieldLink "MoonlitFloor$Plan" (40 : Nat) "MoonlitFloor$Plan" "dryingTime" "I" ∈ sg_T := sg_in1 111 rfl rfl
theorem kt_1_112 : Jvm.Cond.fieldLink "MoonlitFloor$SetupReader" (184 : Nat) "MoonlitFloor$Plan" "dryingTime" "I" ∈ sg_T := sg_in1 112 rfl rfl
theorem kt_1_113 : Jvm.Cond.fieldLink "MoonlitFloor$World" (186 : Nat) "MoonlitFloor$Plan" "dryingTime" "I" ∈ sg_T := sg_in1 113 rfl rfl
theorem kt_1_114 : Jvm.Cond.fieldLink "MoonlitFloor$Plan" (43 : Nat) "MoonlitFloor$Plan" "restTime" "I" ∈ sg_T := sg_in1 114 rfl rfl
theorem kt_1_115 : Jvm.Cond.fieldLink "MoonlitFloor$SetupReader" (187 : Nat) "MoonlitFloor$Plan" "restTime" "I" ∈ sg_T := sg_in1 115 rfl rfl
theorem kt_1_116 : Jvm.Cond.fieldLink "MoonlitFloor$World" (189 : Nat) "MoonlitFloor$Plan" "restTime" "I" ∈ sg_T := sg_in1 116 rfl rfl
theorem kt_1_117 : Jvm.Cond.fieldLink "MoonlitFloor$Plan" (46 : Nat) "MoonlitFloor$Plan" "stamina" "I" ∈ sg_T := sg_in1 117 rfl rfl
theorem kt_1_118 : Jvm.Cond.fieldLink "MoonlitFloor$SetupReader" (190 : Nat) "MoonlitFloor$Plan" "stamina" "I" ∈ sg_T := sg_in1 118 rfl rfl
theorem kt_1_119 : Jvm.Cond.fieldLink "MoonlitFloor$World" (227 : Nat) "MoonlitFloor$Plan" "stamina" "I" ∈ sg_T := sg_in1 119 rfl rfl
theorem kt_1_120 : Jvm.Cond.fieldLink "MoonlitFloor$Plan" (49 : Nat) "MoonlitFloor$Plan" "noise" "I" ∈ sg_T := sg_in1 120 rfl rfl
theorem kt_1_121 : Jvm.Cond.fieldLink "MoonlitFloor$SetupReader" (193 : Nat) "MoonlitFloor$Plan" "noise" "I" ∈ sg_T := sg_in1 121 rfl rfl
theorem kt_1_122 : Jvm.Cond.fieldLink "MoonlitFloor$World" (198 : Nat) "MoonlitFloor$Plan" "noise" "I" ∈ sg_T := sg_in1 122 rfl rfl
theorem kt_1_123 : Jvm.Cond.fieldLink "MoonlitFloor$Plan" (52 : Nat) "MoonlitFloor$Plan" "clouds" "I" ∈ sg_T := sg_in1 123 rfl rfl
theorem kt_1_124 : Jvm.Cond.fieldLink "MoonlitFloor$SetupReader" (167 : Nat) "MoonlitFloor$Plan" "clouds" "I" ∈ sg_T := sg_in1 124 rfl rfl
theorem kt_1_125 : Jvm.Cond.fieldLink "MoonlitFloor$Plan" (55 : Nat) "MoonlitFloor$Plan" "moves" "I" ∈ sg_T := sg_in1 125 rfl rfl
theorem kt_1_126 : Jvm.Cond.fieldLink "MoonlitFloor$SetupReader" (242 : Nat) "MoonlitFloor$Plan" "moves" "I" ∈ sg_T := sg_in1 126 rfl rfl
theorem kt_1_127 : Jvm.Cond.fieldLink "MoonlitFloor$World" (173 : Nat) "MoonlitFloor$Plan" "moves" "I" ∈ sg_T := sg_in1 127 rfl rfl
theorem kt_1_128 : Jvm.Cond.laysFinal "MoonlitFloor$Plan" "MoonlitFloor$Plan" "draughts" "[I" ∈ sg_T := sg_in1 128 rfl rfl
theorem kt_1_129 : Jvm.Cond.soleField "MoonlitFloor$Plan" "draughts" ∈ sg_T := sg_in1 129 rfl rfl
theorem kt_1_130 : Jvm.Cond.laysFinal "MoonlitFloor$Plan" "MoonlitFloor$Plan" "cloudFirsts" "[I" ∈ sg_T := sg_in1 130 rfl rfl
theorem kt_1_131 : Jvm.Cond.soleField "MoonlitFloor$Plan" "cloudFirsts" ∈ sg_T := sg_in1 131 rfl rfl
theorem kt_1_132 : Jvm.Cond.laysFinal "MoonlitFloor$Plan" "MoonlitFloor$Plan" "cloudLasts" "[I" ∈ sg_T := sg_in1 132 rfl rfl
theorem kt_1_133 : Jvm.Cond.soleField "MoonlitFloor$Plan" "cloudLasts" ∈ sg_T := sg_in1 133 rfl rfl
theorem kt_1_134 : Jvm.Cond.laysFinal "MoonlitFloor$Plan" "MoonlitFloor$Plan" "route" "[I" ∈ sg_T := sg_in1 134 rfl rfl
theorem kt_1_135 : Jvm.Cond.soleField "MoonlitFloor$Plan" "route" ∈ sg_T := sg_in1 135 rfl rfl
theorem kt_1_136 : Jvm.Cond.lays "MoonlitFloor$Plan" "MoonlitFloor$Plan" "rows" "I" ∈ sg_T := sg_in1 136 rfl rfl
theorem kt_1_137 : Jvm.Cond.soleField "MoonlitFloor$Plan" "rows" ∈ sg_T := sg_in1 137 rfl rfl
theorem kt_1_138 : Jvm.Cond.lays "MoonlitFloor$Plan" "MoonlitFloor$Plan" "columns" "I" ∈ sg_T := sg_in1 138 rfl rfl
theorem kt_1_139 : Jvm.Cond.soleField "MoonlitFloor$Plan" "columns" ∈ sg_T := sg_in1 139 rfl rfl
theorem kt_1_140 : Jvm.Cond.lays "MoonlitFloor$Plan" "MoonlitFloor$Plan" "minutesPerRow" "I" ∈ sg_T := sg_in1 140 rfl rfl
theorem kt_1_141 : Jvm.Cond.soleField "MoonlitFloor$Plan" "minutesPerRow" ∈ sg_T := sg_in1 141 rfl rfl
theorem kt_1_142 : Jvm.Cond.lays "MoonlitFloor$Plan" "MoonlitFloor$Plan" "dryingTime" "I" ∈ sg_T := sg_in1 142 rfl rfl
theorem kt_1_143 : Jvm.Cond.soleField "MoonlitFloor$Plan" "dryingTime" ∈ sg_T := sg_in1 143 rfl rfl
theorem kt_1_144 : Jvm.Cond.lays "MoonlitFloor$Plan" "MoonlitFloor$Plan" "restTime" "I" ∈ sg_T := sg_in1 144 rfl rfl
theorem kt_1_145 : Jvm.Cond.soleField "MoonlitFloor$Plan" "restTime" ∈ sg_T := sg_in1 145 rfl rfl
theorem kt_1_146 : Jvm.Cond.lays "MoonlitFloor$Plan" "MoonlitFloor$Plan" "stamina" "I" ∈ sg_T := sg_in1 146 rfl rfl
theorem kt_1_147 : Jvm.Cond.soleField "MoonlitFloor$Plan" "stamina" ∈ sg_T := sg_in1 147 rfl rfl
theorem kt_1_148 : Jvm.Cond.lays "MoonlitFloor$Plan" "MoonlitFloor$Plan" "noise" "I" ∈ sg_T := sg_in1 148 rfl rfl
theorem kt_1_149 : Jvm.Cond.soleField "MoonlitFloor$Plan" "noise" ∈ sg_T := sg_in1 149 rfl rfl
theorem kt_1_150 : Jvm.Cond.lays "MoonlitFloor$Plan" "MoonlitFloor$Plan" "clouds" "I" ∈ sg_T := sg_in1 150 rfl rfl
theorem kt_1_151 : Jvm.Cond.soleField "MoonlitFloor$Plan" "clouds" ∈ sg_T := sg_in1 151 rfl rfl
theorem kt_1_152 : Jvm.Cond.lays "MoonlitFloor$Plan" "MoonlitFloor$Plan" "moves" "I" ∈ sg_T := sg_in1 152 rfl rfl
theorem kt_1_153 : Jvm.Cond.soleField "MoonlitFloor$Plan" "moves" ∈ sg_T := sg_in1 153 rfl rfl
theorem kt_1_154 : Jvm.Cond.superclass "MoonlitFloor$Plan" "java/lang/Object" ∈ sg_T := sg_in1 154 rfl rfl
theorem kt_1_155 : Jvm.Cond.classLink "MoonlitFloor$World" (18 : Nat) "MoonlitFloor$Walker" ∈ sg_T := sg_in1 155 rfl rfl
theorem kt_1_156 : Jvm.Cond.instantiable "MoonlitFloor$Walker" (9 : Nat) ∈ sg_T := sg_in1 156 rfl rfl
theorem kt_1_158 : Jvm.Cond.instanceMethod ({ cls := "MoonlitFloor$Walker", name := "<init>", desc := "()V" } : Jvm.MethodName) ∈ sg_T := sg_in1 158 rfl rfl
theorem kt_1_159 : Jvm.Cond.code ({ cls := "MoonlitFloor$Walker", name := "<init>", desc := "()V" } : Jvm.MethodName) prog_9_method_1_code (1 : Nat) (Option.none : Option Jvm.ClassFile.FieldType) ∈ sg_T := sg_in1 159 rfl rfl
theorem kt_1_160 : Jvm.Cond.methodLink "MoonlitFloor$Walker" (3 : Nat) ({ cls := "java/lang/Object", name := "<init>", desc := "()V" } : Jvm.MethodName) ∈ sg_T := sg_in1 160 rfl rfl
theorem kt_1_161 : Jvm.Cond.fieldLink "MoonlitFloor$Walker" (9 : Nat) "MoonlitFloor$Walker" "tile" "I" ∈ sg_T := sg_in1 161 rfl rfl
theorem kt_1_162 : Jvm.Cond.fieldLink "MoonlitFloor$World" (148 : Nat) "MoonlitFloor$Walker" "tile" "I" ∈ sg_T := sg_in1 162 rfl rfl
theorem kt_1_163 : Jvm.Cond.fieldLink "MoonlitFloor" (161 : Nat) "MoonlitFloor$Walker" "tile" "I" ∈ sg_T := sg_in1 163 rfl rfl
theorem kt_1_164 : Jvm.Cond.fieldLink "MoonlitFloor$Walker" (15 : Nat) "MoonlitFloor$Walker" "column" "I" ∈ sg_T := sg_in1 164 rfl rfl
theorem kt_1_165 : Jvm.Cond.fieldLink "MoonlitFloor$SetupReader" (228 : Nat) "MoonlitFloor$Walker" "column" "I" ∈ sg_T := sg_in1 165 rfl rfl
theorem kt_1_166 : Jvm.Cond.fieldLink "MoonlitFloor$World" (204 : Nat) "MoonlitFloor$Walker" "column" "I" ∈ sg_T := sg_in1 166 rfl rfl
theorem kt_1_167 : Jvm.Cond.fieldLink "MoonlitFloor$Walker" (18 : Nat) "MoonlitFloor$Walker" "right" "Z" ∈ sg_T := sg_in1 167 rfl rfl
theorem kt_1_168 : Jvm.Cond.fieldLink "MoonlitFloor$SetupReader" (233 : Nat) "MoonlitFloor$Walker" "right" "Z" ∈ sg_T := sg_in1 168 rfl rfl
theorem kt_1_169 : Jvm.Cond.fieldLink "MoonlitFloor$World" (207 : Nat) "MoonlitFloor$Walker" "right" "Z" ∈ sg_T := sg_in1 169 rfl rfl
theorem kt_1_170 : Jvm.Cond.fieldLink "MoonlitFloor" (166 : Nat) "MoonlitFloor$Walker" "right" "Z" ∈ sg_T := sg_in1 170 rfl rfl
theorem kt_1_171 : Jvm.Cond.fieldLink "MoonlitFloor$Walker" (22 : Nat) "MoonlitFloor$Walker" "rest" "I" ∈ sg_T := sg_in1 171 rfl rfl
theorem kt_1_172 : Jvm.Cond.fieldLink "MoonlitFloor$World" (145 : Nat) "MoonlitFloor$Walker" "rest" "I" ∈ sg_T := sg_in1 172 rfl rfl
theorem kt_1_173 : Jvm.Cond.fieldLink "MoonlitFloor" (169 : Nat) "MoonlitFloor$Walker" "rest" "I" ∈ sg_T := sg_in1 173 rfl rfl
theorem kt_1_174 : Jvm.Cond.fieldLink "MoonlitFloor$Walker" (25 : Nat) "MoonlitFloor$Walker" "sincePause" "I" ∈ sg_T := sg_in1 174 rfl rfl
theorem kt_1_175 : Jvm.Cond.fieldLink "MoonlitFloor$World" (230 : Nat) "MoonlitFloor$Walker" "sincePause" "I" ∈ sg_T := sg_in1 175 rfl rfl
theorem kt_1_176 : Jvm.Cond.fieldLink "MoonlitFloor" (172 : Nat) "MoonlitFloor$Walker" "sincePause" "I" ∈ sg_T := sg_in1 176 rfl rfl
theorem kt_1_177 : Jvm.Cond.fieldLink "MoonlitFloor$Walker" (28 : Nat) "MoonlitFloor$Walker" "steps" "I" ∈ sg_T := sg_in1 177 rfl rfl
theorem kt_1_178 : Jvm.Cond.fieldLink "MoonlitFloor" (175 : Nat) "MoonlitFloor$Walker" "steps" "I" ∈ sg_T := sg_in1 178 rfl rfl
theorem kt_1_179 : Jvm.Cond.fieldLink "MoonlitFloor$Walker" (31 : Nat) "MoonlitFloor$Walker" "tonight" "I" ∈ sg_T := sg_in1 179 rfl rfl
theorem kt_1_180 : Jvm.Cond.fieldLink "MoonlitFloor$World" (248 : Nat) "MoonlitFloor$Walker" "tonight" "I" ∈ sg_T := sg_in1 180 rfl rfl
theorem kt_1_181 : Jvm.Cond.fieldLink "MoonlitFloor" (178 : Nat) "MoonlitFloor$Walker" "tonight" "I" ∈ sg_T := sg_in1 181 rfl rfl
theorem kt_1_182 : Jvm.Cond.fieldLink "MoonlitFloor$Walker" (34 : Nat) "MoonlitFloor$Walker" "turns" "I" ∈ sg_T := sg_in1 182 rfl rfl
theorem kt_1_183 : Jvm.Cond.fieldLink "MoonlitFloor" (181 : Nat) "MoonlitFloor$Walker" "turns" "I" ∈ sg_T := sg_in1 183 rfl rfl
theorem kt_1_184 : Jvm.Cond.fieldLink "MoonlitFloor$Walker" (37 : Nat) "MoonlitFloor$Walker" "falls" "I" ∈ sg_T := sg_in1 184 rfl rfl
theorem kt_1_185 : Jvm.Cond.fieldLink "MoonlitFloor" (184 : Nat) "MoonlitFloor$Walker" "falls" "I" ∈ sg_T := sg_in1 185 rfl rfl
theorem kt_1_186 : Jvm.Cond.lays "MoonlitFloor$Walker" "MoonlitFloor$Walker" "tile" "I" ∈ sg_T := sg_in1 186 rfl rfl
theorem kt_1_187 : Jvm.Cond.soleField "MoonlitFloor$Walker" "tile" ∈ sg_T := sg_in1 187 rfl rfl
theorem kt_1_188 : Jvm.Cond.lays "MoonlitFloor$Walker" "MoonlitFloor$Walker" "column" "I" ∈ sg_T := sg_in1 188 rfl rfl
theorem kt_1_189 : Jvm.Cond.soleField "MoonlitFloor$Walker" "column" ∈ sg_T := sg_in1 189 rfl rfl
theorem kt_1_190 : Jvm.Cond.lays "MoonlitFloor$Walker" "MoonlitFloor$Walker" "right" "Z" ∈ sg_T := sg_in1 190 rfl rfl
theorem kt_1_191 : Jvm.Cond.soleField "MoonlitFloor$Walker" "right" ∈ sg_T := sg_in1 191 rfl rfl
theorem kt_1_192 : Jvm.Cond.lays "MoonlitFloor$Walker" "MoonlitFloor$Walker" "rest" "I" ∈ sg_T := sg_in1 192 rfl rfl
theorem kt_1_193 : Jvm.Cond.soleField "MoonlitFloor$Walker" "rest" ∈ sg_T := sg_in1 193 rfl rfl
theorem kt_1_194 : Jvm.Cond.lays "MoonlitFloor$Walker" "MoonlitFloor$Walker" "sincePause" "I" ∈ sg_T := sg_in1 194 rfl rfl
theorem kt_1_195 : Jvm.Cond.soleField "MoonlitFloor$Walker" "sincePause" ∈ sg_T := sg_in1 195 rfl rfl
theorem kt_1_196 : Jvm.Cond.lays "MoonlitFloor$Walker" "MoonlitFloor$Walker" "steps" "I" ∈ sg_T := sg_in1 196 rfl rfl
theorem kt_1_197 : Jvm.Cond.soleField "MoonlitFloor$Walker" "steps" ∈ sg_T := sg_in1 197 rfl rfl
theorem kt_1_198 : Jvm.Cond.lays "MoonlitFloor$Walker" "MoonlitFloor$Walker" "tonight" "I" ∈ sg_T := sg_in1 198 rfl rfl
theorem kt_1_199 : Jvm.Cond.soleField "MoonlitFloor$Walker" "tonight" ∈ sg_T := sg_in1 199 rfl rfl
theorem kt_1_200 : Jvm.Cond.lays "MoonlitFloor$Walker" "MoonlitFloor$Walker" "turns" "I" ∈ sg_T := sg_in1 200 rfl rfl
theorem kt_1_201 : Jvm.Cond.soleField "MoonlitFloor$Walker" "turns" ∈ sg_T := sg_in1 201 rfl rfl
theorem kt_1_202 : Jvm.Cond.lays "MoonlitFloor$Walker" "MoonlitFloor$Walker" "falls" "I" ∈ sg_T := sg_in1 202 rfl rfl
theorem kt_1_203 : Jvm.Cond.soleField "MoonlitFloor$Walker" "falls" ∈ sg_T := sg_in1 203 rfl rfl
theorem kt_1_204 : Jvm.Cond.superclass "MoonlitFloor$Walker" "java/lang/Object" ∈ sg_T := sg_in1 204 rfl rfl
theorem kt_1_205 : Jvm.Cond.classLink "MoonlitFloor$World" (25 : Nat) "MoonlitFloor$Records" ∈ sg_T := sg_in1 205 rfl rfl
theorem kt_1_206 : Jvm.Cond.instantiable "MoonlitFloor$Records" (3 : Nat) ∈ sg_T := sg_in1 206 rfl rfl
theorem kt_1_208 : Jvm.Cond.instanceMethod ({ cls := "MoonlitFloor$Records", name := "<init>", desc := "()V" } : Jvm.MethodName) ∈ sg_T := sg_in1 208 rfl rfl
theorem kt_1_209 : Jvm.Cond.code ({ cls := "MoonlitFloor$Records", name := "<init>", desc := "()V" } : Jvm.MethodName) prog_5_method_1_code (1 : Nat) (Option.none : Option Jvm.ClassFile.FieldType) ∈ sg_T := sg_in1 209 rfl rfl
theorem kt_1_210 : Jvm.Cond.methodLink "MoonlitFloor$Records" (3 : Nat) ({ cls := "java/lang/Object", name := "<init>", desc := "()V" } : Jvm.MethodName) ∈ sg_T := sg_in1 210 rfl rfl
theorem kt_1_211 : Jvm.Cond.fieldLink "MoonlitFloor$Records" (9 : Nat) "MoonlitFloor$Records" "nights" "[I" ∈ sg_T := sg_in1 211 rfl rfl
theorem kt_1_212 : Jvm.Cond.fieldLink "MoonlitFloor" (224 : Nat) "MoonlitFloor$Records" "nights" "[I" ∈ sg_T := sg_in1 212 rfl rfl
theorem kt_1_213 : Jvm.Cond.fieldLink "MoonlitFloor$Records" (15 : Nat) "MoonlitFloor$Records" "steps" "[I" ∈ sg_T := sg_in1 213 rfl rfl
theorem kt_1_214 : Jvm.Cond.fieldLink "MoonlitFloor" (227 : Nat) "MoonlitFloor$Records" "steps" "[I" ∈ sg_T := sg_in1 214 rfl rfl
theorem kt_1_215 : Jvm.Cond.fieldLink "MoonlitFloor$Records" (18 : Nat) "MoonlitFloor$Records" "count" "I" ∈ sg_T := sg_in1 215 rfl rfl
theorem kt_1_216 : Jvm.Cond.fieldLink "MoonlitFloor" (216 : Nat) "MoonlitFloor$Records" "count" "I" ∈ sg_T := sg_in1 216 rfl rfl
theorem kt_1_217 : Jvm.Cond.laysFinal "MoonlitFloor$Records" "MoonlitFloor$Records" "nights" "[I" ∈ sg_T := sg_in1 217 rfl rfl
theorem kt_1_218 : Jvm.Cond.soleField "MoonlitFloor$Records" "nights" ∈ sg_T := sg_in1 218 rfl rfl
theorem kt_1_219 : Jvm.Cond.laysFinal "MoonlitFloor$Records" "MoonlitFloor$Records" "steps" "[I" ∈ sg_T := sg_in1 219 rfl rfl
theorem kt_1_220 : Jvm.Cond.soleField "MoonlitFloor$Records" "steps" ∈ sg_T := sg_in1 220 rfl rfl
theorem kt_1_221 : Jvm.Cond.lays "MoonlitFloor$Records" "MoonlitFloor$Records" "count" "I" ∈ sg_T := sg_in1 221 rfl rfl
theorem kt_1_222 : Jvm.Cond.soleField "MoonlitFloor$Records" "count" ∈ sg_T := sg_in1 222 rfl rfl
theorem kt_1_223 : Jvm.Cond.superclass "MoonlitFloor$Records" "java/lang/Object" ∈ sg_T := sg_in1 223 rfl rfl
theorem kt_1_224 : Jvm.Cond.fieldLink "MoonlitFloor$World" (12 : Nat) "MoonlitFloor$World" "plan" "LMoonlitFloor$Plan;" ∈ sg_T := sg_in1 224 rfl rfl
theorem kt_1_225 : Jvm.Cond.fieldLink "MoonlitFloor$SetupReader" (117 : Nat) "MoonlitFloor$World" "plan" "LMoonlitFloor$Plan;" ∈ sg_T := sg_in1 225 rfl rfl
theorem kt_1_226 : Jvm.Cond.fieldLink "MoonlitFloor" (97 : Nat) "MoonlitFloor$World" "plan" "LMoonlitFloor$Plan;" ∈ sg_T := sg_in1 226 rfl rfl
theorem kt_1_227 : Jvm.Cond.fieldLink "MoonlitFloor$World" (21 : Nat) "MoonlitFloor$World" "walker" "LMoonlitFloor$Walker;" ∈ sg_T := sg_in1 227 rfl rfl
theorem kt_1_228 : Jvm.Cond.fieldLink "MoonlitFloor$SetupReader" (224 : Nat) "MoonlitFloor$World" "walker" "LMoonlitFloor$Walker;" ∈ sg_T := sg_in1 228 rfl rfl
theorem kt_1_229 : Jvm.Cond.fieldLink "MoonlitFloor" (157 : Nat) "MoonlitFloor$World" "walker" "LMoonlitFloor$Walker;" ∈ sg_T := sg_in1 229 rfl rfl
theorem kt_1_230 : Jvm.Cond.fieldLink "MoonlitFloor$World" (28 : Nat) "MoonlitFloor$World" "records" "LMoonlitFloor$Records;" ∈ sg_T := sg_in1 230 rfl rfl
theorem kt_1_231 : Jvm.Cond.fieldLink "MoonlitFloor" (212 : Nat) "MoonlitFloor$World" "records" "LMoonlitFloor$Records;" ∈ sg_T := sg_in1 231 rfl rfl
theorem kt_1_232 : Jvm.Cond.fieldLink "MoonlitFloor$World" (32 : Nat) "MoonlitFloor$World" "closed" "[I" ∈ sg_T := sg_in1 232 rfl rfl
theorem kt_1_233 : Jvm.Cond.fieldLink "MoonlitFloor" (138 : Nat) "MoonlitFloor$World" "closed" "[I" ∈ sg_T := sg_in1 233 rfl rfl
theorem kt_1_234 : Jvm.Cond.fieldLink "MoonlitFloor$SetupReader" (261 : Nat) "MoonlitFloor$World" "closed" "[I" ∈ sg_T := sg_in1 234 rfl rfl
theorem kt_1_235 : Jvm.Cond.fieldLink "MoonlitFloor$World" (36 : Nat) "MoonlitFloor$World" "wear" "[I" ∈ sg_T := sg_in1 235 rfl rfl
theorem kt_1_236 : Jvm.Cond.fieldLink "MoonlitFloor" (190 : Nat) "MoonlitFloor$World" "wear" "[I" ∈ sg_T := sg_in1 236 rfl rfl
theorem kt_1_237 : Jvm.Cond.fieldLink "MoonlitFloor$World" (39 : Nat) "MoonlitFloor$World" "spills" "[I" ∈ sg_T := sg_in1 237 rfl rfl
theorem kt_1_238 : Jvm.Cond.fieldLink "MoonlitFloor$SetupReader" (295 : Nat) "MoonlitFloor$World" "spills" "[I" ∈ sg_T := sg_in1 238 rfl rfl
theorem kt_1_239 : Jvm.Cond.fieldLink "MoonlitFloor" (205 : Nat) "MoonlitFloor$World" "spills" "[I" ∈ sg_T := sg_in1 239 rfl rfl
theorem kt_2_0 : Jvm.Cond.fieldLink "MoonlitFloor$World" (42 : Nat) "MoonlitFloor$World" "bowls" "[I" ∈ sg_T := sg_in2 0 rfl rfl
theorem kt_2_1 : Jvm.Cond.fieldLink "MoonlitFloor$SetupReader" (301 : Nat) "MoonlitFloor$World" "bowls" "[I" ∈ sg_T := sg_in2 1 rfl rfl
theorem kt_2_2 : Jvm.Cond.fieldLink "MoonlitFloor" (202 : Nat) "MoonlitFloor$World" "bowls" "[I" ∈ sg_T := sg_in2 2 rfl rfl
theorem kt_2_3 : Jvm.Cond.fieldLink "MoonlitFloor$World" (45 : Nat) "MoonlitFloor$World" "rugs" "[I" ∈ sg_T := sg_in2 3 rfl rfl
theorem kt_2_4 : Jvm.Cond.fieldLink "MoonlitFloor$SetupReader" (280 : Nat) "MoonlitFloor$World" "rugs" "[I" ∈ sg_T := sg_in2 4 rfl rfl
theorem kt_2_5 : Jvm.Cond.fieldLink "MoonlitFloor" (196 : Nat) "MoonlitFloor$World" "rugs" "[I" ∈ sg_T := sg_in2 5 rfl rfl
theorem kt_2_6 : Jvm.Cond.fieldLink "MoonlitFloor$World" (59 : Nat) "MoonlitFloor$World" "pace" "I" ∈ sg_T := sg_in2 6 rfl rfl
theorem kt_2_7 : Jvm.Cond.fieldLink "MoonlitFloor$SetupReader" (181 : Nat) "MoonlitFloor$World" "pace" "I" ∈ sg_T := sg_in2 7 rfl rfl
theorem kt_2_8 : Jvm.Cond.fieldLink "MoonlitFloor" (151 : Nat) "MoonlitFloor$World" "pace" "I" ∈ sg_T := sg_in2 8 rfl rfl
theorem kt_2_9 : Jvm.Cond.fieldLink "MoonlitFloor$World" (63 : Nat) "MoonlitFloor$World" "night" "I" ∈ sg_T := sg_in2 9 rfl rfl
theorem kt_2_10 : Jvm.Cond.fieldLink "MoonlitFloor" (112 : Nat) "MoonlitFloor$World" "night" "I" ∈ sg_T := sg_in2 10 rfl rfl
theorem kt_2_11 : Jvm.Cond.fieldLink "MoonlitFloor$SetupReader" (196 : Nat) "MoonlitFloor$World" "night" "I" ∈ sg_T := sg_in2 11 rfl rfl
theorem kt_2_12 : Jvm.Cond.fieldLink "MoonlitFloor$World" (66 : Nat) "MoonlitFloor$World" "minute" "I" ∈ sg_T := sg_in2 12 rfl rfl
theorem kt_2_13 : Jvm.Cond.fieldLink "MoonlitFloor" (115 : Nat) "MoonlitFloor$World" "minute" "I" ∈ sg_T := sg_in2 13 rfl rfl
theorem kt_2_14 : Jvm.Cond.fieldLink "MoonlitFloor$SetupReader" (316 : Nat) "MoonlitFloor$World" "minute" "I" ∈ sg_T := sg_in2 14 rfl rfl
theorem kt_2_15 : Jvm.Cond.fieldLink "MoonlitFloor$World" (69 : Nat) "MoonlitFloor$World" "slides" "I" ∈ sg_T := sg_in2 15 rfl rfl
theorem kt_2_16 : Jvm.Cond.fieldLink "MoonlitFloor" (199 : Nat) "MoonlitFloor$World" "slides" "I" ∈ sg_T := sg_in2 16 rfl rfl
theorem kt_2_17 : Jvm.Cond.fieldLink "MoonlitFloor$World" (72 : Nat) "MoonlitFloor$World" "catTile" "I" ∈ sg_T := sg_in2 17 rfl rfl
theorem kt_2_18 : Jvm.Cond.fieldLink "MoonlitFloor$SetupReader" (239 : Nat) "MoonlitFloor$World" "catTile" "I" ∈ sg_T := sg_in2 18 rfl rfl
theorem kt_2_19 : Jvm.Cond.fieldLink "MoonlitFloor" (193 : Nat) "MoonlitFloor$World" "catTile" "I" ∈ sg_T := sg_in2 19 rfl rfl
theorem kt_2_20 : Jvm.Cond.fieldLink "MoonlitFloor$World" (75 : Nat) "MoonlitFloor$World" "nextMove" "I" ∈ sg_T := sg_in2 20 rfl rfl
theorem kt_2_21 : Jvm.Cond.laysFinal "MoonlitFloor$World" "MoonlitFloor$World" "plan" "LMoonlitFloor$Plan;" ∈ sg_T := sg_in2 21 rfl rfl
theorem kt_2_22 : Jvm.Cond.soleField "MoonlitFloor$World" "plan" ∈ sg_T := sg_in2 22 rfl rfl
theorem kt_2_23 : Jvm.Cond.laysFinal "MoonlitFloor$World" "MoonlitFloor$World" "walker" "LMoonlitFloor$Walker;" ∈ sg_T := sg_in2 23 rfl rfl
theorem kt_2_24 : Jvm.Cond.soleField "MoonlitFloor$World" "walker" ∈ sg_T := sg_in2 24 rfl rfl
theorem kt_2_25 : Jvm.Cond.laysFinal "MoonlitFloor$World" "MoonlitFloor$World" "records" "LMoonlitFloor$Records;" ∈ sg_T := sg_in2 25 rfl rfl
theorem kt_2_26 : Jvm.Cond.soleField "MoonlitFloor$World" "records" ∈ sg_T := sg_in2 26 rfl rfl
theorem kt_2_27 : Jvm.Cond.laysFinal "MoonlitFloor$World" "MoonlitFloor$World" "closed" "[I" ∈ sg_T := sg_in2 27 rfl rfl
theorem kt_2_28 : Jvm.Cond.soleField "MoonlitFloor$World" "closed" ∈ sg_T := sg_in2 28 rfl rfl
theorem kt_2_29 : Jvm.Cond.laysFinal "MoonlitFloor$World" "MoonlitFloor$World" "wear" "[I" ∈ sg_T := sg_in2 29 rfl rfl
theorem kt_2_30 : Jvm.Cond.soleField "MoonlitFloor$World" "wear" ∈ sg_T := sg_in2 30 rfl rfl
theorem kt_2_31 : Jvm.Cond.laysFinal "MoonlitFloor$World" "MoonlitFloor$World" "spills" "[I" ∈ sg_T := sg_in2 31 rfl rfl
theorem kt_2_32 : Jvm.Cond.soleField "MoonlitFloor$World" "spills" ∈ sg_T := sg_in2 32 rfl rfl
theorem kt_2_33 : Jvm.Cond.laysFinal "MoonlitFloor$World" "MoonlitFloor$World" "bowls" "[I" ∈ sg_T := sg_in2 33 rfl rfl
theorem kt_2_34 : Jvm.Cond.soleField "MoonlitFloor$World" "bowls" ∈ sg_T := sg_in2 34 rfl rfl
theorem kt_2_35 : Jvm.Cond.laysFinal "MoonlitFloor$World" "MoonlitFloor$World" "rugs" "[I" ∈ sg_T := sg_in2 35 rfl rfl
theorem kt_2_36 : Jvm.Cond.soleField "MoonlitFloor$World" "rugs" ∈ sg_T := sg_in2 36 rfl rfl
theorem kt_2_37 : Jvm.Cond.lays "MoonlitFloor$World" "MoonlitFloor$World" "pace" "I" ∈ sg_T := sg_in2 37 rfl rfl
theorem kt_2_38 : Jvm.Cond.soleField "MoonlitFloor$World" "pace" ∈ sg_T := sg_in2 38 rfl rfl
theorem kt_2_39 : Jvm.Cond.lays "MoonlitFloor$World" "MoonlitFloor$World" "night" "I" ∈ sg_T := sg_in2 39 rfl rfl
theorem kt_2_40 : Jvm.Cond.soleField "MoonlitFloor$World" "night" ∈ sg_T := sg_in2 40 rfl rfl
theorem kt_2_41 : Jvm.Cond.lays "MoonlitFloor$World" "MoonlitFloor$World" "minute" "I" ∈ sg_T := sg_in2 41 rfl rfl
theorem kt_2_42 : Jvm.Cond.soleField "MoonlitFloor$World" "minute" ∈ sg_T := sg_in2 42 rfl rfl
theorem kt_2_43 : Jvm.Cond.lays "MoonlitFloor$World" "MoonlitFloor$World" "slides" "I" ∈ sg_T := sg_in2 43 rfl rfl
theorem kt_2_44 : Jvm.Cond.soleField "MoonlitFloor$World" "slides" ∈ sg_T := sg_in2 44 rfl rfl
theorem kt_2_45 : Jvm.Cond.lays "MoonlitFloor$World" "MoonlitFloor$World" "catTile" "I" ∈ sg_T := sg_in2 45 rfl rfl
theorem kt_2_46 : Jvm.Cond.soleField "MoonlitFloor$World" "catTile" ∈ sg_T := sg_in2 46 rfl rfl
theorem kt_2_47 : Jvm.Cond.lays "MoonlitFloor$World" "MoonlitFloor$World" "nextMove" "I" ∈ sg_T := sg_in2 47 rfl rfl
theorem kt_2_48 : Jvm.Cond.soleField "MoonlitFloor$World" "nextMove" ∈ sg_T := sg_in2 48 rfl rfl
theorem kt_2_49 : Jvm.Cond.superclass "MoonlitFloor$World" "java/lang/Object" ∈ sg_T := sg_in2 49 rfl rfl
theorem kt_2_50 : Jvm.Cond.classLink "MoonlitFloor" (30 : Nat) "MoonlitFloor$SetupReader" ∈ sg_T := sg_in2 50 rfl rfl
theorem kt_2_51 : Jvm.Cond.instantiable "MoonlitFloor$SetupReader" (11 : Nat) ∈ sg_T := sg_in2 51 rfl rfl
theorem kt_2_52 : Jvm.Cond.methodLink "MoonlitFloor" (32 : Nat) ({ cls := "MoonlitFloor$SetupReader", name := "<init>", desc := "(LMoonlitFloor$World;)V" } : Jvm.MethodName) ∈ sg_T := sg_in2 52 rfl rfl
theorem kt_2_53 : Jvm.Cond.instanceMethod ({ cls := "MoonlitFloor$SetupReader", name := "<init>", desc := "(LMoonlitFloor$World;)V" } : Jvm.MethodName) ∈ sg_T := sg_in2 53 rfl rfl
theorem kt_2_54 : Jvm.Cond.code ({ cls := "MoonlitFloor$SetupReader", name := "<init>", desc := "(LMoonlitFloor$World;)V" } : Jvm.MethodName) prog_6_method_1_code (2 : Nat) (Option.none : Option Jvm.ClassFile.FieldType) ∈ sg_T := sg_in2 54 rfl rfl
theorem kt_2_55 : Jvm.Cond.methodLink "MoonlitFloor$SetupReader" (3 : Nat) ({ cls := "java/lang/Object", name := "<init>", desc := "()V" } : Jvm.MethodName) ∈ sg_T := sg_in2 55 rfl rfl
theorem kt_2_56 : Jvm.Cond.classLink "MoonlitFloor$SetupReader" (9 : Nat) "MoonlitFloor$Tokens" ∈ sg_T := sg_in2 56 rfl rfl
theorem kt_2_57 : Jvm.Cond.instantiable "MoonlitFloor$Tokens" (5 : Nat) ∈ sg_T := sg_in2 57 rfl rfl
theorem kt_2_59 : Jvm.Cond.instanceMethod ({ cls := "MoonlitFloor$Tokens", name := "<init>", desc := "()V" } : Jvm.MethodName) ∈ sg_T := sg_in2 59 rfl rfl
theorem kt_2_60 : Jvm.Cond.code ({ cls := "MoonlitFloor$Tokens", name := "<init>", desc := "()V" } : Jvm.MethodName) prog_8_method_1_code (1 : Nat) (Option.none : Option Jvm.ClassFile.FieldType) ∈ sg_T := sg_in2 60 rfl rfl
theorem kt_2_61 : Jvm.Cond.methodLink "MoonlitFloor$Tokens" (3 : Nat) ({ cls := "java/lang/Object", name := "<init>", desc := "()V" } : Jvm.MethodName) ∈ sg_T := sg_in2 61 rfl rfl
theorem kt_2_62 : Jvm.Cond.classLink "MoonlitFloor$Tokens" (9 : Nat) "MoonlitFloor$Sign" ∈ sg_T := sg_in2 62 rfl rfl
theorem kt_2_64 : Jvm.Cond.fieldLink "MoonlitFloor$Tokens" (11 : Nat) "MoonlitFloor$Tokens" "signs" "[LMoonlitFloor$Sign;" ∈ sg_T := sg_in2 64 rfl rfl
theorem kt_2_65 : Jvm.Cond.fieldLink "MoonlitFloor$Tokens" (17 : Nat) "MoonlitFloor$Tokens" "starts" "[I" ∈ sg_T := sg_in2 65 rfl rfl
theorem kt_2_66 : Jvm.Cond.fieldLink "MoonlitFloor$Tokens" (21 : Nat) "MoonlitFloor$Tokens" "numbers" "[I" ∈ sg_T := sg_in2 66 rfl rfl
theorem kt_2_67 : Jvm.Cond.fieldLink "MoonlitFloor$Tokens" (24 : Nat) "MoonlitFloor$Tokens" "count" "I" ∈ sg_T := sg_in2 67 rfl rfl
theorem kt_2_68 : Jvm.Cond.fieldLink "MoonlitFloor$Tokens" (28 : Nat) "MoonlitFloor$Tokens" "place" "I" ∈ sg_T := sg_in2 68 rfl rfl
theorem kt_2_69 : Jvm.Cond.laysFinal "MoonlitFloor$Tokens" "MoonlitFloor$Tokens" "signs" "[LMoonlitFloor$Sign;" ∈ sg_T := sg_in2 69 rfl rfl
theorem kt_2_70 : Jvm.Cond.soleField "MoonlitFloor$Tokens" "signs" ∈ sg_T := sg_in2 70 rfl rfl
theorem kt_2_71 : Jvm.Cond.laysFinal "MoonlitFloor$Tokens" "MoonlitFloor$Tokens" "starts" "[I" ∈ sg_T := sg_in2 71 rfl rfl
theorem kt_2_72 : Jvm.Cond.soleField "MoonlitFloor$Tokens" "starts" ∈ sg_T := sg_in2 72 rfl rfl
theorem kt_2_73 : Jvm.Cond.laysFinal "MoonlitFloor$Tokens" "MoonlitFloor$Tokens" "numbers" "[I" ∈ sg_T := sg_in2 73 rfl rfl
theorem kt_2_74 : Jvm.Cond.soleField "MoonlitFloor$Tokens" "numbers" ∈ sg_T := sg_in2 74 rfl rfl
theorem kt_2_75 : Jvm.Cond.lays "MoonlitFloor$Tokens" "MoonlitFloor$Tokens" "count" "I" ∈ sg_T := sg_in2 75 rfl rfl
theorem kt_2_76 : Jvm.Cond.soleField "MoonlitFloor$Tokens" "count" ∈ sg_T := sg_in2 76 rfl rfl
theorem kt_2_77 : Jvm.Cond.lays "MoonlitFloor$Tokens" "MoonlitFloor$Tokens" "place" "I" ∈ sg_T := sg_in2 77 rfl rfl
theorem kt_2_78 : Jvm.Cond.soleField "MoonlitFloor$Tokens" "place" ∈ sg_T := sg_in2 78 rfl rfl
theorem kt_2_79 : Jvm.Cond.superclass "MoonlitFloor$Tokens" "java/lang/Object" ∈ sg_T := sg_in2 79 rfl rfl
theorem kt_2_80 : Jvm.Cond.fieldLink "MoonlitFloor$SetupReader" (12 : Nat) "MoonlitFloor$SetupReader" "tokens" "LMoonlitFloor$Tokens;" ∈ sg_T := sg_in2 80 rfl rfl
theorem kt_2_81 : Jvm.Cond.fieldLink "MoonlitFloor$SetupReader" (25 : Nat) "MoonlitFloor$SetupReader" "world" "LMoonlitFloor$World;" ∈ sg_T := sg_in2 81 rfl rfl
theorem kt_2_82 : Jvm.Cond.fieldLink "MoonlitFloor$SetupReader" (18 : Nat) "MoonlitFloor$SetupReader" "bodies" "[I" ∈ sg_T := sg_in2 82 rfl rfl
theorem kt_2_83 : Jvm.Cond.fieldLink "MoonlitFloor$SetupReader" (22 : Nat) "MoonlitFloor$SetupReader" "passesLeft" "[I" ∈ sg_T := sg_in2 83 rfl rfl
theorem kt_2_84 : Jvm.Cond.fieldLink "MoonlitFloor$SetupReader" (77 : Nat) "MoonlitFloor$SetupReader" "nesting" "I" ∈ sg_T := sg_in2 84 rfl rfl
theorem kt_2_85 : Jvm.Cond.fieldLink "MoonlitFloor$SetupReader" (80 : Nat) "MoonlitFloor$SetupReader" "simulated" "I" ∈ sg_T := sg_in2 85 rfl rfl
theorem kt_2_86 : Jvm.Cond.fieldLink "MoonlitFloor$SetupReader" (51 : Nat) "MoonlitFloor$SetupReader" "expectsEntry" "Z" ∈ sg_T := sg_in2 86 rfl rfl
theorem kt_2_87 : Jvm.Cond.fieldLink "MoonlitFloor$SetupReader" (83 : Nat) "MoonlitFloor$SetupReader" "sawEvent" "Z" ∈ sg_T := sg_in2 87 rfl rfl
theorem kt_2_88 : Jvm.Cond.fieldLink "MoonlitFloor$SetupReader" (47 : Nat) "MoonlitFloor$SetupReader" "finished" "Z" ∈ sg_T := sg_in2 88 rfl rfl
theorem kt_2_89 : Jvm.Cond.fieldLink "MoonlitFloor$SetupReader" (29 : Nat) "MoonlitFloor$SetupReader" "errorCode" "I" ∈ sg_T := sg_in2 89 rfl rfl
theorem kt_2_90 : Jvm.Cond.fieldLink "MoonlitFloor$SetupReader" (33 : Nat) "MoonlitFloor$SetupReader" "errorPosition" "I" ∈ sg_T := sg_in2 90 rfl rfl
theorem kt_2_91 : Jvm.Cond.laysFinal "MoonlitFloor$SetupReader" "MoonlitFloor$SetupReader" "tokens" "LMoonlitFloor$Tokens;" ∈ sg_T := sg_in2 91 rfl rfl
theorem kt_2_92 : Jvm.Cond.soleField "MoonlitFloor$SetupReader" "tokens" ∈ sg_T := sg_in2 92 rfl rfl
theorem kt_2_93 : Jvm.Cond.laysFinal "MoonlitFloor$SetupReader" "MoonlitFloor$SetupReader" "world" "LMoonlitFloor$World;" ∈ sg_T := sg_in2 93 rfl rfl
theorem kt_2_94 : Jvm.Cond.soleField "MoonlitFloor$SetupReader" "world" ∈ sg_T := sg_in2 94 rfl rfl
theorem kt_2_95 : Jvm.Cond.laysFinal "MoonlitFloor$SetupReader" "MoonlitFloor$SetupReader" "bodies" "[I" ∈ sg_T := sg_in2 95 rfl rfl
theorem kt_2_96 : Jvm.Cond.soleField "MoonlitFloor$SetupReader" "bodies" ∈ sg_T := sg_in2 96 rfl rfl
theorem kt_2_97 : Jvm.Cond.laysFinal "MoonlitFloor$SetupReader" "MoonlitFloor$SetupReader" "passesLeft" "[I" ∈ sg_T := sg_in2 97 rfl rfl
theorem kt_2_98 : Jvm.Cond.soleField "MoonlitFloor$SetupReader" "passesLeft" ∈ sg_T := sg_in2 98 rfl rfl
theorem kt_2_99 : Jvm.Cond.lays "MoonlitFloor$SetupReader" "MoonlitFloor$SetupReader" "nesting" "I" ∈ sg_T := sg_in2 99 rfl rfl
theorem kt_2_100 : Jvm.Cond.soleField "MoonlitFloor$SetupReader" "nesting" ∈ sg_T := sg_in2 100 rfl rfl
theorem kt_2_101 : Jvm.Cond.lays "MoonlitFloor$SetupReader" "MoonlitFloor$SetupReader" "simulated" "I" ∈ sg_T := sg_in2 101 rfl rfl
theorem kt_2_102 : Jvm.Cond.soleField "MoonlitFloor$SetupReader" "simulated" ∈ sg_T := sg_in2 102 rfl rfl
theorem kt_2_103 : Jvm.Cond.lays "MoonlitFloor$SetupReader" "MoonlitFloor$SetupReader" "expectsEntry" "Z" ∈ sg_T := sg_in2 103 rfl rfl
theorem kt_2_104 : Jvm.Cond.soleField "MoonlitFloor$SetupReader" "expectsEntry" ∈ sg_T := sg_in2 104 rfl rfl
theorem kt_2_105 : Jvm.Cond.lays "MoonlitFloor$SetupReader" "MoonlitFloor$SetupReader" "sawEvent" "Z" ∈ sg_T := sg_in2 105 rfl rfl
theorem kt_2_106 : Jvm.Cond.soleField "MoonlitFloor$SetupReader" "sawEvent" ∈ sg_T := sg_in2 106 rfl rfl
theorem kt_2_107 : Jvm.Cond.lays "MoonlitFloor$SetupReader" "MoonlitFloor$SetupReader" "finished" "Z" ∈ sg_T := sg_in2 107 rfl rfl
theorem kt_2_108 : Jvm.Cond.soleField "MoonlitFloor$SetupReader" "finished" ∈ sg_T := sg_in2 108 rfl rfl
theorem kt_2_109 : Jvm.Cond.lays "MoonlitFloor$SetupReader" "MoonlitFloor$SetupReader" "errorCode" "I" ∈ sg_T := sg_in2 109 rfl rfl
theorem kt_2_110 : Jvm.Cond.soleField "MoonlitFloor$SetupReader" "errorCode" ∈ sg_T := sg_in2 110 rfl rfl
theorem kt_2_111 : Jvm.Cond.lays "MoonlitFloor$SetupReader" "MoonlitFloor$SetupReader" "errorPosition" "I" ∈ sg_T := sg_in2 111 rfl rfl
theorem kt_2_112 : Jvm.Cond.soleField "MoonlitFloor$SetupReader" "errorPosition" ∈ sg_T := sg_in2 112 rfl rfl
theorem kt_2_113 : Jvm.Cond.superclass "MoonlitFloor$SetupReader" "java/lang/Object" ∈ sg_T := sg_in2 113 rfl rfl
theorem kt_2_114 : Jvm.Cond.classLink "MoonlitFloor" (39 : Nat) "MoonlitFloor$History" ∈ sg_T := sg_in2 114 rfl rfl
theorem kt_2_115 : Jvm.Cond.instantiable "MoonlitFloor$History" (5 : Nat) ∈ sg_T := sg_in2 115 rfl rfl
theorem kt_2_116 : Jvm.Cond.methodLink "MoonlitFloor" (41 : Nat) ({ cls := "MoonlitFloor$History", name := "<init>", desc := "()V" } : Jvm.MethodName) ∈ sg_T := sg_in2 116 rfl rfl
theorem kt_2_117 : Jvm.Cond.instanceMethod ({ cls := "MoonlitFloor$History", name := "<init>", desc := "()V" } : Jvm.MethodName) ∈ sg_T := sg_in2 117 rfl rfl
theorem kt_2_118 : Jvm.Cond.code ({ cls := "MoonlitFloor$History", name := "<init>", desc := "()V" } : Jvm.MethodName) prog_3_method_1_code (2 : Nat) (Option.none : Option Jvm.ClassFile.FieldType) ∈ sg_T := sg_in2 118 rfl rfl
theorem kt_2_119 : Jvm.Cond.methodLink "MoonlitFloor$History" (3 : Nat) ({ cls := "java/lang/Object", name := "<init>", desc := "()V" } : Jvm.MethodName) ∈ sg_T := sg_in2 119 rfl rfl
theorem kt_2_120 : Jvm.Cond.classLink "MoonlitFloor$History" (9 : Nat) "MoonlitFloor$World" ∈ sg_T := sg_in2 120 rfl rfl
theorem kt_2_123 : Jvm.Cond.fieldLink "MoonlitFloor$History" (11 : Nat) "MoonlitFloor$History" "past" "[LMoonlitFloor$World;" ∈ sg_T := sg_in2 123 rfl rfl
theorem kt_2_124 : Jvm.Cond.fieldLink "MoonlitFloor$History" (17 : Nat) "MoonlitFloor$History" "saved" "[LMoonlitFloor$World;" ∈ sg_T := sg_in2 124 rfl rfl
theorem kt_2_125 : Jvm.Cond.fieldLink "MoonlitFloor$History" (20 : Nat) "MoonlitFloor$History" "inUse" "[I" ∈ sg_T := sg_in2 125 rfl rfl
theorem kt_2_126 : Jvm.Cond.fieldLink "MoonlitFloor$History" (25 : Nat) "MoonlitFloor$History" "next" "I" ∈ sg_T := sg_in2 126 rfl rfl
theorem kt_2_127 : Jvm.Cond.fieldLink "MoonlitFloor$History" (37 : Nat) "MoonlitFloor$History" "count" "I" ∈ sg_T := sg_in2 127 rfl rfl
theorem kt_2_128 : Jvm.Cond.fieldLink "MoonlitFloor" (296 : Nat) "MoonlitFloor$History" "count" "I" ∈ sg_T := sg_in2 128 rfl rfl
theorem kt_2_129 : Jvm.Cond.laysFinal "MoonlitFloor$History" "MoonlitFloor$History" "past" "[LMoonlitFloor$World;" ∈ sg_T := sg_in2 129 rfl rfl
theorem kt_2_130 : Jvm.Cond.soleField "MoonlitFloor$History" "past" ∈ sg_T := sg_in2 130 rfl rfl
theorem kt_2_131 : Jvm.Cond.laysFinal "MoonlitFloor$History" "MoonlitFloor$History" "saved" "[LMoonlitFloor$World;" ∈ sg_T := sg_in2 131 rfl rfl
theorem kt_2_132 : Jvm.Cond.soleField "MoonlitFloor$History" "saved" ∈ sg_T := sg_in2 132 rfl rfl
theorem kt_2_133 : Jvm.Cond.laysFinal "MoonlitFloor$History" "MoonlitFloor$History" "inUse" "[I" ∈ sg_T := sg_in2 133 rfl rfl
theorem kt_2_134 : Jvm.Cond.soleField "MoonlitFloor$History" "inUse" ∈ sg_T := sg_in2 134 rfl rfl
theorem kt_2_135 : Jvm.Cond.lays "MoonlitFloor$History" "MoonlitFloor$History" "next" "I" ∈ sg_T := sg_in2 135 rfl rfl
theorem kt_2_136 : Jvm.Cond.soleField "MoonlitFloor$History" "next" ∈ sg_T := sg_in2 136 rfl rfl
theorem kt_2_137 : Jvm.Cond.lays "MoonlitFloor$History" "MoonlitFloor$History" "count" "I" ∈ sg_T := sg_in2 137 rfl rfl
theorem kt_2_138 : Jvm.Cond.soleField "MoonlitFloor$History" "count" ∈ sg_T := sg_in2 138 rfl rfl
theorem kt_2_139 : Jvm.Cond.superclass "MoonlitFloor$History" "java/lang/Object" ∈ sg_T := sg_in2 139 rfl rfl
theorem kt_2_140 : Jvm.Cond.fieldLink "MoonlitFloor" (9 : Nat) "MoonlitFloor" "buffer" "[I" ∈ sg_T := sg_in2 140 rfl rfl
theorem kt_2_141 : Jvm.Cond.fieldLink "MoonlitFloor" (16 : Nat) "MoonlitFloor" "output" "Ljava/lang/StringBuilder;" ∈ sg_T := sg_in2 141 rfl rfl
theorem kt_2_142 : Jvm.Cond.fieldLink "MoonlitFloor" (23 : Nat) "MoonlitFloor" "world" "LMoonlitFloor$World;" ∈ sg_T := sg_in2 142 rfl rfl
theorem kt_2_143 : Jvm.Cond.fieldLink "MoonlitFloor" (27 : Nat) "MoonlitFloor" "draft" "LMoonlitFloor$World;" ∈ sg_T := sg_in2 143 rfl rfl
theorem kt_2_144 : Jvm.Cond.fieldLink "MoonlitFloor" (35 : Nat) "MoonlitFloor" "reader" "LMoonlitFloor$SetupReader;" ∈ sg_T := sg_in2 144 rfl rfl
theorem kt_2_145 : Jvm.Cond.fieldLink "MoonlitFloor" (42 : Nat) "MoonlitFloor" "history" "LMoonlitFloor$History;" ∈ sg_T := sg_in2 145 rfl rfl
theorem kt_2_146 : Jvm.Cond.fieldLink "MoonlitFloor" (46 : Nat) "MoonlitFloor" "filled" "I" ∈ sg_T := sg_in2 146 rfl rfl
theorem kt_2_147 : Jvm.Cond.fieldLink "MoonlitFloor" (50 : Nat) "MoonlitFloor" "loaded" "Z" ∈ sg_T := sg_in2 147 rfl rfl
theorem kt_2_148 : Jvm.Cond.laysFinal "MoonlitFloor" "MoonlitFloor" "buffer" "[I" ∈ sg_T := sg_in2 148 rfl rfl
theorem kt_2_149 : Jvm.Cond.soleField "MoonlitFloor" "buffer" ∈ sg_T := sg_in2 149 rfl rfl
theorem kt_2_150 : Jvm.Cond.laysFinal "MoonlitFloor" "MoonlitFloor" "output" "Ljava/lang/StringBuilder;" ∈ sg_T := sg_in2 150 rfl rfl
theorem kt_2_151 : Jvm.Cond.soleField "MoonlitFloor" "output" ∈ sg_T := sg_in2 151 rfl rfl
theorem kt_2_152 : Jvm.Cond.laysFinal "MoonlitFloor" "MoonlitFloor" "world" "LMoonlitFloor$World;" ∈ sg_T := sg_in2 152 rfl rfl
theorem kt_2_153 : Jvm.Cond.soleField "MoonlitFloor" "world" ∈ sg_T := sg_in2 153 rfl rfl
theorem kt_2_154 : Jvm.Cond.laysFinal "MoonlitFloor" "MoonlitFloor" "draft" "LMoonlitFloor$World;" ∈ sg_T := sg_in2 154 rfl rfl
theorem kt_2_155 : Jvm.Cond.soleField "MoonlitFloor" "draft" ∈ sg_T := sg_in2 155 rfl rfl
theorem kt_2_156 : Jvm.Cond.laysFinal "MoonlitFloor" "MoonlitFloor" "reader" "LMoonlitFloor$SetupReader;" ∈ sg_T := sg_in2 156 rfl rfl
theorem kt_2_157 : Jvm.Cond.soleField "MoonlitFloor" "reader" ∈ sg_T := sg_in2 157 rfl rfl
theorem kt_2_158 : Jvm.Cond.laysFinal "MoonlitFloor" "MoonlitFloor" "history" "LMoonlitFloor$History;" ∈ sg_T := sg_in2 158 rfl rfl
theorem kt_2_159 : Jvm.Cond.soleField "MoonlitFloor" "history" ∈ sg_T := sg_in2 159 rfl rfl
theorem kt_2_160 : Jvm.Cond.lays "MoonlitFloor" "MoonlitFloor" "filled" "I" ∈ sg_T := sg_in2 160 rfl rfl
theorem kt_2_161 : Jvm.Cond.soleField "MoonlitFloor" "filled" ∈ sg_T := sg_in2 161 rfl rfl
theorem kt_2_162 : Jvm.Cond.lays "MoonlitFloor" "MoonlitFloor" "loaded" "Z" ∈ sg_T := sg_in2 162 rfl rfl
theorem kt_2_163 : Jvm.Cond.soleField "MoonlitFloor" "loaded" ∈ sg_T := sg_in2 163 rfl rfl
theorem kt_2_164 : Jvm.Cond.superclass "MoonlitFloor" "java/lang/Object" ∈ sg_T := sg_in2 164 rfl rfl
theorem kt_2_165 : Jvm.Cond.methodLink "MoonlitFloorLaw" (313 : Nat) ({ cls := "MoonlitFloor", name := "parseSetup", desc := "(I)I" } : Jvm.MethodName) ∈ sg_T := sg_in2 165 rfl rfl
theorem kt_2_166 : Jvm.Cond.instanceMethod ({ cls := "MoonlitFloor", name := "parseSetup", desc := "(I)I" } : Jvm.MethodName) ∈ sg_T := sg_in2 166 rfl rfl
theorem kt_2_167 : Jvm.Cond.selects "MoonlitFloor" ({ cls := "MoonlitFloor", name := "parseSetup", desc := "(I)I" } : Jvm.MethodName) ({ cls := "MoonlitFloor", name := "parseSetup", desc := "(I)I" } : Jvm.MethodName) ∈ sg_T := sg_in2 167 rfl rfl
theorem kt_2_168 : Jvm.Cond.code ({ cls := "MoonlitFloor", name := "parseSetup", desc := "(I)I" } : Jvm.MethodName) prog_1_method_4_code (2 : Nat) (Option.some Jvm.ClassFile.FieldType.int) ∈ sg_T := sg_in2 168 rfl rfl
theorem kt_2_169 : Jvm.Cond.classLink "MoonlitFloor" (62 : Nat) "java/lang/IndexOutOfBoundsException" ∈ sg_T := sg_in2 169 rfl rfl
theorem kt_2_170 : Jvm.Cond.instantiable "java/lang/IndexOutOfBoundsException" (6 : Nat) ∈ sg_T := sg_in2 170 rfl rfl
theorem kt_2_178 : Jvm.Cond.selects "java/lang/IndexOutOfBoundsException" ({ cls := "java/lang/Throwable", name := "fillInStackTrace", desc := "(I)Ljava/lang/Throwable;" } : Jvm.MethodName) ({ cls := "java/lang/Throwable", name := "fillInStackTrace", desc := "(I)Ljava/lang/Throwable;" } : Jvm.MethodName) ∈ sg_T := sg_in2 178 rfl rfl
theorem kt_2_179 : Jvm.Cond.selects "java/lang/IndexOutOfBoundsException" ({ cls := "java/lang/Throwable", name := "fillInStackTrace", desc := "()Ljava/lang/Throwable;" } : Jvm.MethodName) ({ cls := "java/lang/Throwable", name := "fillInStackTrace", desc := "()Ljava/lang/Throwable;" } : Jvm.MethodName) ∈ sg_T := sg_in2 179 rfl rfl
theorem kt_2_180 : Jvm.Cond.lays "java/lang/IndexOutOfBoundsException" "java/lang/Throwable" "cause" "Ljava/lang/Throwable;" ∈ sg_T := sg_in2 180 rfl rfl
theorem kt_2_181 : Jvm.Cond.lays "java/lang/Throwable" "java/lang/Throwable" "cause" "Ljava/lang/Throwable;" ∈ sg_T := sg_in2 181 rfl rfl
theorem kt_2_182 : Jvm.Cond.lays "java/lang/IndexOutOfBoundsException" "java/lang/Throwable" "stackTrace" "[Ljava/lang/StackTraceElement;" ∈ sg_T := sg_in2 182 rfl rfl
theorem kt_2_183 : Jvm.Cond.lays "java/lang/Throwable" "java/lang/Throwable" "stackTrace" "[Ljava/lang/StackTraceElement;" ∈ sg_T := sg_in2 183 rfl rfl
theorem kt_2_184 : Jvm.Cond.lays "java/lang/IndexOutOfBoundsException" "java/lang/Throwable" "suppressedExceptions" "Ljava/util/List;" ∈ sg_T := sg_in2 184 rfl rfl
theorem kt_2_185 : Jvm.Cond.lays "java/lang/Throwable" "java/lang/Throwable" "suppressedExceptions" "Ljava/util/List;" ∈ sg_T := sg_in2 185 rfl rfl
theorem kt_2_186 : Jvm.Cond.lays "java/lang/IndexOutOfBoundsException" "java/lang/Throwable" "detailMessage" "Ljava/lang/String;" ∈ sg_T := sg_in2 186 rfl rfl
theorem kt_2_187 : Jvm.Cond.lays "java/lang/Throwable" "java/lang/Throwable" "detailMessage" "Ljava/lang/String;" ∈ sg_T := sg_in2 187 rfl rfl
theorem kt_2_188 : Jvm.Cond.lays "java/lang/IndexOutOfBoundsException" "java/lang/Throwable" "backtrace" "Ljava/lang/Object;" ∈ sg_T := sg_in2 188 rfl rfl
theorem kt_2_189 : Jvm.Cond.lays "java/lang/Throwable" "java/lang/Throwable" "backtrace" "Ljava/lang/Object;" ∈ sg_T := sg_in2 189 rfl rfl
theorem kt_2_190 : Jvm.Cond.fieldLink "java/lang/Throwable" (198 : Nat) "java/lang/Throwable" "backtrace" "Ljava/lang/Object;" ∈ sg_T := sg_in2 190 rfl rfl
theorem kt_2_191 : Jvm.Cond.superclass "java/lang/Throwable" "java/lang/Object" ∈ sg_T := sg_in2 191 rfl rfl
theorem kt_2_192 : Jvm.Cond.instanceMethod ({ cls := "java/lang/Throwable", name := "<init>", desc := "()V" } : Jvm.MethodName) ∈ sg_T := sg_in2 192 rfl rfl
theorem kt_2_193 : Jvm.Cond.code ({ cls := "java/lang/Throwable", name := "<init>", desc := "()V" } : Jvm.MethodName) prog_36_method_1_code (1 : Nat) (Option.none : Option Jvm.ClassFile.FieldType) ∈ sg_T := sg_in2 193 rfl rfl
theorem kt_2_194 : Jvm.Cond.methodLink "java/lang/Throwable" (1 : Nat) ({ cls := "java/lang/Object", name := "<init>", desc := "()V" } : Jvm.MethodName) ∈ sg_T := sg_in2 194 rfl rfl
theorem kt_2_195 : Jvm.Cond.fieldLink "java/lang/Throwable" (13 : Nat) "java/lang/Throwable" "UNASSIGNED_STACK" "[Ljava/lang/StackTraceElement;" ∈ sg_T := sg_in2 195 rfl rfl
theorem kt_2_197 : Jvm.Cond.fieldLink "java/lang/Throwable" (20 : Nat) "java/lang/Throwable" "SUPPRESSED_SENTINEL" "Ljava/util/List;" ∈ sg_T := sg_in2 197 rfl rfl
theorem kt_2_199 : Jvm.Cond.methodLink "java/lang/Throwable" (27 : Nat) ({ cls := "java/lang/Throwable", name := "fillInStackTrace", desc := "()Ljava/lang/Throwable;" } : Jvm.MethodName) ∈ sg_T := sg_in2 199 rfl rfl
theorem kt_2_200 : Jvm.Cond.instanceMethod ({ cls := "java/lang/Throwable", name := "fillInStackTrace", desc := "()Ljava/lang/Throwable;" } : Jvm.MethodName) ∈ sg_T := sg_in2 200 rfl rfl
theorem kt_2_201 : Jvm.Cond.sameMethod "java/lang/Throwable" "java/lang/Throwable" "fillInStackTrace" "()Ljava/lang/Throwable;" ∈ sg_T := sg_in2 201 rfl rfl
theorem kt_2_202 : Jvm.Cond.selects "java/lang/IllegalArgumentException" ({ cls := "java/lang/Throwable", name := "fillInStackTrace", desc := "()Ljava/lang/Throwable;" } : Jvm.MethodName) ({ cls := "java/lang/Throwable", name := "fillInStackTrace", desc := "()Ljava/lang/Throwable;" } : Jvm.MethodName) ∈ sg_T := sg_in2 202 rfl rfl
theorem kt_2_203 : Jvm.Cond.selects "java/lang/IllegalStateException" ({ cls := "java/lang/Throwable", name := "fillInStackTrace", desc := "()Ljava/lang/Throwable;" } : Jvm.MethodName) ({ cls := "java/lang/Throwable", name := "fillInStackTrace", desc := "()Ljava/lang/Throwable;" } : Jvm.MethodName) ∈ sg_T := sg_in2 203 rfl rfl
theorem kt_2_205 : Jvm.Cond.methodLink "java/lang/Throwable" (202 : Nat) ({ cls := "java/lang/Throwable", name := "fillInStackTrace", desc := "(I)Ljava/lang/Throwable;" } : Jvm.MethodName) ∈ sg_T := sg_in2 205 rfl rfl
theorem kt_2_207 : Jvm.Cond.instanceMethod ({ cls := "java/lang/Throwable", name := "fillInStackTrace", desc := "(I)Ljava/lang/Throwable;" } : Jvm.MethodName) ∈ sg_T := sg_in2 207 rfl rfl
theorem kt_2_208 : Jvm.Cond.instantiable "java/lang/Throwable" (6 : Nat) ∈ sg_T := sg_in2 208 rfl rfl
theorem kt_2_209 : Jvm.Cond.native ({ cls := "java/lang/Throwable", name := "fillInStackTrace", desc := "(I)Ljava/lang/Throwable;" } : Jvm.MethodName) ∈ sg_T := sg_in2 209 rfl rfl
theorem kt_2_211 : Jvm.Cond.methodLink "MoonlitFloor" (66 : Nat) ({ cls := "java/lang/IndexOutOfBoundsException", name := "<init>", desc := "(Ljava/lang/String;)V" } : Jvm.MethodName) ∈ sg_T := sg_in2 211 rfl rfl
theorem kt_2_212 : Jvm.Cond.instanceMethod ({ cls := "java/lang/IndexOutOfBoundsException", name := "<init>", desc := "(Ljava/lang/String;)V" } : Jvm.MethodName) ∈ sg_T := sg_in2 212 rfl rfl
theorem kt_2_213 : Jvm.Cond.code ({ cls := "java/lang/IndexOutOfBoundsException", name := "<init>", desc := "(Ljava/lang/String;)V" } : Jvm.MethodName) prog_24_method_2_code (2 : Nat) (Option.none : Option Jvm.ClassFile.FieldType) ∈ sg_T := sg_in2 213 rfl rfl
theorem kt_2_214 : Jvm.Cond.methodLink "java/lang/IndexOutOfBoundsException" (7 : Nat) ({ cls := "java/lang/RuntimeException", name := "<init>", desc := "(Ljava/lang/String;)V" } : Jvm.MethodName) ∈ sg_T := sg_in2 214 rfl rfl
theorem kt_2_215 : Jvm.Cond.instanceMethod ({ cls := "java/lang/RuntimeException", name := "<init>", desc := "(Ljava/lang/String;)V" } : Jvm.MethodName) ∈ sg_T := sg_in2 215 rfl rfl
theorem kt_2_216 : Jvm.Cond.code ({ cls := "java/lang/RuntimeException", name := "<init>", desc := "(Ljava/lang/String;)V" } : Jvm.MethodName) prog_30_method_2_code (2 : Nat) (Option.none : Option Jvm.ClassFile.FieldType) ∈ sg_T := sg_in2 216 rfl rfl
theorem kt_2_217 : Jvm.Cond.methodLink "java/lang/RuntimeException" (7 : Nat) ({ cls := "java/lang/Exception", name := "<init>", desc := "(Ljava/lang/String;)V" } : Jvm.MethodName) ∈ sg_T := sg_in2 217 rfl rfl
theorem kt_2_218 : Jvm.Cond.instanceMethod ({ cls := "java/lang/Exception", name := "<init>", desc := "(Ljava/lang/String;)V" } : Jvm.MethodName) ∈ sg_T := sg_in2 218 rfl rfl
theorem kt_2_219 : Jvm.Cond.code ({ cls := "java/lang/Exception", name := "<init>", desc := "(Ljava/lang/String;)V" } : Jvm.MethodName) prog_21_method_2_code (2 : Nat) (Option.none : Option Jvm.ClassFile.FieldType) ∈ sg_T := sg_in2 219 rfl rfl
theorem kt_2_220 : Jvm.Cond.methodLink "java/lang/Exception" (7 : Nat) ({ cls := "java/lang/Throwable", name := "<init>", desc := "(Ljava/lang/String;)V" } : Jvm.MethodName) ∈ sg_T := sg_in2 220 rfl rfl
theorem kt_2_221 : Jvm.Cond.instanceMethod ({ cls := "java/lang/Throwable", name := "<init>", desc := "(Ljava/lang/String;)V" } : Jvm.MethodName) ∈ sg_T := sg_in2 221 rfl rfl
theorem kt_2_222 : Jvm.Cond.code ({ cls := "java/lang/Throwable", name := "<init>", desc := "(Ljava/lang/String;)V" } : Jvm.MethodName) prog_36_method_2_code (2 : Nat) (Option.none : Option Jvm.ClassFile.FieldType) ∈ sg_T := sg_in2 222 rfl rfl
theorem kt_2_223 : Jvm.Cond.fieldLink "java/lang/Throwable" (198 : Nat) "java/lang/Throwable" "backtrace" "Ljava/lang/Object;" ∈ sg_T := sg_in2 223 rfl rfl
theorem kt_2_224 : Jvm.Cond.fieldLink "java/lang/Throwable" (31 : Nat) "java/lang/Throwable" "detailMessage" "Ljava/lang/String;" ∈ sg_T := sg_in2 224 rfl rfl
theorem kt_2_225 : Jvm.Cond.fieldLink "java/lang/Throwable" (7 : Nat) "java/lang/Throwable" "cause" "Ljava/lang/Throwable;" ∈ sg_T := sg_in2 225 rfl rfl
theorem kt_2_226 : Jvm.Cond.fieldLink "java/lang/Throwable" (17 : Nat) "java/lang/Throwable" "stackTrace" "[Ljava/lang/StackTraceElement;" ∈ sg_T := sg_in2 226 rfl rfl
theorem kt_2_227 : Jvm.Cond.fieldLink "java/lang/Throwable" (24 : Nat) "java/lang/Throwable" "suppressedExceptions" "Ljava/util/List;" ∈ sg_T := sg_in2 227 rfl rfl
theorem kt_2_228 : Jvm.Cond.soleField "java/lang/Throwable" "backtrace" ∈ sg_T := sg_in2 228 rfl rfl
theorem kt_2_229 : Jvm.Cond.soleField "java/lang/Throwable" "detailMessage" ∈ sg_T := sg_in2 229 rfl rfl
theorem kt_2_230 : Jvm.Cond.soleField "java/lang/Throwable" "cause" ∈ sg_T := sg_in2 230 rfl rfl
theorem kt_2_231 : Jvm.Cond.soleField "java/lang/Throwable" "stackTrace" ∈ sg_T := sg_in2 231 rfl rfl
theorem kt_2_232 : Jvm.Cond.lays "java/lang/IndexOutOfBoundsException" "java/lang/Throwable" "depth" "I" ∈ sg_T := sg_in2 232 rfl rfl
theorem kt_2_233 : Jvm.Cond.soleField "java/lang/Throwable" "depth" ∈ sg_T := sg_in2 233 rfl rfl
theorem kt_2_234 : Jvm.Cond.soleField "java/lang/Throwable" "suppressedExceptions" ∈ sg_T := sg_in2 234 rfl rfl
theorem kt_2_235 : Jvm.Cond.superclass "java/lang/IndexOutOfBoundsException" "java/lang/RuntimeException" ∈ sg_T := sg_in2 235 rfl rfl
theorem kt_2_236 : Jvm.Cond.methodLink "MoonlitFloor" (69 : Nat) ({ cls := "MoonlitFloor$SetupReader", name := "read", desc := "([II)Z" } : Jvm.MethodName) ∈ sg_T := sg_in2 236 rfl rfl
theorem kt_2_237 : Jvm.Cond.instanceMethod ({ cls := "MoonlitFloor$SetupReader", name := "read", desc := "([II)Z" } : Jvm.MethodName) ∈ sg_T := sg_in2 237 rfl rfl
theorem kt_2_238 : Jvm.Cond.selects "MoonlitFloor$SetupReader" ({ cls := "MoonlitFloor$SetupReader", name := "read", desc := "([II)Z" } : Jvm.MethodName) ({ cls := "MoonlitFloor$SetupReader", name := "read", desc := "([II)Z" } : Jvm.MethodName) ∈ sg_T := sg_in2 238 rfl rfl
theorem kt_2_239 : Jvm.Cond.code ({ cls := "MoonlitFloor$SetupReader", name := "read", desc := "([II)Z" } : Jvm.MethodName) prog_6_method_2_code (4 : Nat) (Option.some Jvm.ClassFile.FieldType.boolean) ∈ sg_T := sg_in2 239 rfl rfl
theorem kt_3_0 : Jvm.Cond.methodLink "MoonlitFloor$SetupReader" (36 : Nat) ({ cls := "MoonlitFloor$SetupReader", name := "restart", desc := "()V" } : Jvm.MethodName) ∈ sg_T := sg_in3 0 rfl rfl
theorem kt_3_2 : Jvm.Cond.instanceMethod ({ cls := "MoonlitFloor$SetupReader", name := "restart", desc := "()V" } : Jvm.MethodName) ∈ sg_T := sg_in3 2 rfl rfl
theorem kt_3_3 : Jvm.Cond.code ({ cls := "MoonlitFloor$SetupReader", name := "restart", desc := "()V" } : Jvm.MethodName) prog_6_method_3_code (1 : Nat) (Option.none : Option Jvm.ClassFile.FieldType) ∈ sg_T := sg_in3 3 rfl rfl
theorem kt_3_4 : Jvm.Cond.methodLink "MoonlitFloor$SetupReader" (74 : Nat) ({ cls := "MoonlitFloor$World", name := "reset", desc := "()V" } : Jvm.MethodName) ∈ sg_T := sg_in3 4 rfl rfl
theorem kt_3_5 : Jvm.Cond.instanceMethod ({ cls := "MoonlitFloor$World", name := "reset", desc := "()V" } : Jvm.MethodName) ∈ sg_T := sg_in3 5 rfl rfl
theorem kt_3_6 : Jvm.Cond.selects "MoonlitFloor$World" ({ cls := "MoonlitFloor$World", name := "reset", desc := "()V" } : Jvm.MethodName) ({ cls := "MoonlitFloor$World", name := "reset", desc := "()V" } : Jvm.MethodName) ∈ sg_T := sg_in3 6 rfl rfl
theorem kt_3_7 : Jvm.Cond.code ({ cls := "MoonlitFloor$World", name := "reset", desc := "()V" } : Jvm.MethodName) prog_10_method_2_code (1 : Nat) (Option.none : Option Jvm.ClassFile.FieldType) ∈ sg_T := sg_in3 7 rfl rfl
theorem kt_3_8 : Jvm.Cond.methodLink "MoonlitFloor$World" (48 : Nat) ({ cls := "MoonlitFloor$Plan", name := "reset", desc := "()V" } : Jvm.MethodName) ∈ sg_T := sg_in3 8 rfl rfl
theorem kt_3_9 : Jvm.Cond.instanceMethod ({ cls := "MoonlitFloor$Plan", name := "reset", desc := "()V" } : Jvm.MethodName) ∈ sg_T := sg_in3 9 rfl rfl
theorem kt_3_10 : Jvm.Cond.selects "MoonlitFloor$Plan" ({ cls := "MoonlitFloor$Plan", name := "reset", desc := "()V" } : Jvm.MethodName) ({ cls := "MoonlitFloor$Plan", name := "reset", desc := "()V" } : Jvm.MethodName) ∈ sg_T := sg_in3 10 rfl rfl
theorem kt_3_11 : Jvm.Cond.code ({ cls := "MoonlitFloor$Plan", name := "reset", desc := "()V" } : Jvm.MethodName) prog_4_method_2_code (1 : Nat) (Option.none : Option Jvm.ClassFile.FieldType) ∈ sg_T := sg_in3 11 rfl rfl
theorem kt_3_12 : Jvm.Cond.methodLink "MoonlitFloor$Plan" (24 : Nat) ({ cls := "java/util/Arrays", name := "fill", desc := "([II)V" } : Jvm.MethodName) ∈ sg_T := sg_in3 12 rfl rfl
theorem kt_3_13 : Jvm.Cond.static ({ cls := "java/util/Arrays", name := "fill", desc := "([II)V" } : Jvm.MethodName) ∈ sg_T := sg_in3 13 rfl rfl
theorem kt_3_14 : Jvm.Cond.code ({ cls := "java/util/Arrays", name := "fill", desc := "([II)V" } : Jvm.MethodName) prog_42_method_103_code (4 : Nat) (Option.none : Option Jvm.ClassFile.FieldType) ∈ sg_T := sg_in3 14 rfl rfl
theorem kt_3_15 : Jvm.Cond.methodLink "MoonlitFloor$World" (51 : Nat) ({ cls := "MoonlitFloor$Walker", name := "reset", desc := "()V" } : Jvm.MethodName) ∈ sg_T := sg_in3 15 rfl rfl
theorem kt_3_16 : Jvm.Cond.instanceMethod ({ cls := "MoonlitFloor$Walker", name := "reset", desc := "()V" } : Jvm.MethodName) ∈ sg_T := sg_in3 16 rfl rfl
theorem kt_3_17 : Jvm.Cond.selects "MoonlitFloor$Walker" ({ cls := "MoonlitFloor$Walker", name := "reset", desc := "()V" } : Jvm.MethodName) ({ cls := "MoonlitFloor$Walker", name := "reset", desc := "()V" } : Jvm.MethodName) ∈ sg_T := sg_in3 17 rfl rfl
theorem kt_3_18 : Jvm.Cond.code ({ cls := "MoonlitFloor$Walker", name := "reset", desc := "()V" } : Jvm.MethodName) prog_9_method_2_code (1 : Nat) (Option.none : Option Jvm.ClassFile.FieldType) ∈ sg_T := sg_in3 18 rfl rfl
theorem kt_3_19 : Jvm.Cond.methodLink "MoonlitFloor$World" (52 : Nat) ({ cls := "MoonlitFloor$Records", name := "reset", desc := "()V" } : Jvm.MethodName) ∈ sg_T := sg_in3 19 rfl rfl
theorem kt_3_20 : Jvm.Cond.instanceMethod ({ cls := "MoonlitFloor$Records", name := "reset", desc := "()V" } : Jvm.MethodName) ∈ sg_T := sg_in3 20 rfl rfl
theorem kt_3_21 : Jvm.Cond.selects "MoonlitFloor$Records" ({ cls := "MoonlitFloor$Records", name := "reset", desc := "()V" } : Jvm.MethodName) ({ cls := "MoonlitFloor$Records", name := "reset", desc := "()V" } : Jvm.MethodName) ∈ sg_T := sg_in3 21 rfl rfl
theorem kt_3_22 : Jvm.Cond.code ({ cls := "MoonlitFloor$Records", name := "reset", desc := "()V" } : Jvm.MethodName) prog_5_method_2_code (1 : Nat) (Option.none : Option Jvm.ClassFile.FieldType) ∈ sg_T := sg_in3 22 rfl rfl
theorem kt_3_23 : Jvm.Cond.methodLink "MoonlitFloor$World" (53 : Nat) ({ cls := "java/util/Arrays", name := "fill", desc := "([II)V" } : Jvm.MethodName) ∈ sg_T := sg_in3 23 rfl rfl
theorem kt_3_24 : Jvm.Cond.methodLink "MoonlitFloor$SetupReader" (39 : Nat) ({ cls := "MoonlitFloor$Tokens", name := "scan", desc := "([II)V" } : Jvm.MethodName) ∈ sg_T := sg_in3 24 rfl rfl
theorem kt_3_25 : Jvm.Cond.instanceMethod ({ cls := "MoonlitFloor$Tokens", name := "scan", desc := "([II)V" } : Jvm.MethodName) ∈ sg_T := sg_in3 25 rfl rfl
theorem kt_3_26 : Jvm.Cond.selects "MoonlitFloor$Tokens" ({ cls := "MoonlitFloor$Tokens", name := "scan", desc := "([II)V" } : Jvm.MethodName) ({ cls := "MoonlitFloor$Tokens", name := "scan", desc := "([II)V" } : Jvm.MethodName) ∈ sg_T := sg_in3 26 rfl rfl
theorem kt_3_27 : Jvm.Cond.code ({ cls := "MoonlitFloor$Tokens", name := "scan", desc := "([II)V" } : Jvm.MethodName) prog_8_method_2_code (5 : Nat) (Option.none : Option Jvm.ClassFile.FieldType) ∈ sg_T := sg_in3 27 rfl rfl
theorem kt_3_29 : Jvm.Cond.static ({ cls := "MoonlitFloor", name := "at", desc := "([II)I" } : Jvm.MethodName) ∈ sg_T := sg_in3 29 rfl rfl
theorem kt_3_30 : Jvm.Cond.code ({ cls := "MoonlitFloor", name := "at", desc := "([II)I" } : Jvm.MethodName) prog_1_method_75_code (2 : Nat) (Option.some Jvm.ClassFile.FieldType.int) ∈ sg_T := sg_in3 30 rfl rfl
theorem kt_3_31 : Jvm.Cond.methodLink "MoonlitFloor$Tokens" (35 : Nat) ({ cls := "MoonlitFloor$Tokens", name := "tokenEnd", desc := "([III)I" } : Jvm.MethodName) ∈ sg_T := sg_in3 31 rfl rfl
theorem kt_3_32 : Jvm.Cond.static ({ cls := "MoonlitFloor$Tokens", name := "tokenEnd", desc := "([III)I" } : Jvm.MethodName) ∈ sg_T := sg_in3 32 rfl rfl
theorem kt_3_33 : Jvm.Cond.code ({ cls := "MoonlitFloor$Tokens", name := "tokenEnd", desc := "([III)I" } : Jvm.MethodName) prog_8_method_3_code (5 : Nat) (Option.some Jvm.ClassFile.FieldType.int) ∈ sg_T := sg_in3 33 rfl rfl
theorem kt_3_34 : Jvm.Cond.methodLink "MoonlitFloor$Tokens" (54 : Nat) ({ cls := "MoonlitFloor$Tokens", name := "isLetter", desc := "(I)Z" } : Jvm.MethodName) ∈ sg_T := sg_in3 34 rfl rfl
theorem kt_3_35 : Jvm.Cond.static ({ cls := "MoonlitFloor$Tokens", name := "isLetter", desc := "(I)Z" } : Jvm.MethodName) ∈ sg_T := sg_in3 35 rfl rfl
theorem kt_3_36 : Jvm.Cond.code ({ cls := "MoonlitFloor$Tokens", name := "isLetter", desc := "(I)Z" } : Jvm.MethodName) prog_8_method_7_code (1 : Nat) (Option.some Jvm.ClassFile.FieldType.boolean) ∈ sg_T := sg_in3 36 rfl rfl
theorem kt_3_37 : Jvm.Cond.methodLink "MoonlitFloor$Tokens" (58 : Nat) ({ cls := "MoonlitFloor$Tokens", name := "isDigit", desc := "(I)Z" } : Jvm.MethodName) ∈ sg_T := sg_in3 37 rfl rfl
theorem kt_3_38 : Jvm.Cond.static ({ cls := "MoonlitFloor$Tokens", name := "isDigit", desc := "(I)Z" } : Jvm.MethodName) ∈ sg_T := sg_in3 38 rfl rfl
theorem kt_3_39 : Jvm.Cond.code ({ cls := "MoonlitFloor$Tokens", name := "isDigit", desc := "(I)Z" } : Jvm.MethodName) prog_8_method_8_code (1 : Nat) (Option.some Jvm.ClassFile.FieldType.boolean) ∈ sg_T := sg_in3 39 rfl rfl
theorem kt_3_40 : Jvm.Cond.methodLink "MoonlitFloor$Tokens" (39 : Nat) ({ cls := "MoonlitFloor$Tokens", name := "signOf", desc := "([III)LMoonlitFloor$Sign;" } : Jvm.MethodName) ∈ sg_T := sg_in3 40 rfl rfl
theorem kt_3_41 : Jvm.Cond.static ({ cls := "MoonlitFloor$Tokens", name := "signOf", desc := "([III)LMoonlitFloor$Sign;" } : Jvm.MethodName) ∈ sg_T := sg_in3 41 rfl rfl
theorem kt_3_42 : Jvm.Cond.code ({ cls := "MoonlitFloor$Tokens", name := "signOf", desc := "([III)LMoonlitFloor$Sign;" } : Jvm.MethodName) prog_8_method_4_code (7 : Nat) (Option.some (Jvm.ClassFile.FieldType.object "MoonlitFloor$Sign")) ∈ sg_T := sg_in3 42 rfl rfl
theorem kt_3_43 : Jvm.Cond.fieldLink "MoonlitFloor$Tokens" (61 : Nat) "MoonlitFloor$Sign" "NUMBER" "LMoonlitFloor$Sign;" ∈ sg_T := sg_in3 43 rfl rfl
theorem kt_3_45 : Jvm.Cond.fieldLink "MoonlitFloor$Tokens" (64 : Nat) "MoonlitFloor$Sign" "UNKNOWN" "LMoonlitFloor$Sign;" ∈ sg_T := sg_in3 45 rfl rfl
theorem kt_3_47 : Jvm.Cond.fieldLink "MoonlitFloor$Tokens" (67 : Nat) "MoonlitFloor$Tokens" "SIGNS" "[LMoonlitFloor$Sign;" ∈ sg_T := sg_in3 47 rfl rfl
theorem kt_3_49 : Jvm.Cond.methodLink "MoonlitFloor$Tokens" (74 : Nat) ({ cls := "java/lang/String", name := "length", desc := "()I" } : Jvm.MethodName) ∈ sg_T := sg_in3 49 rfl rfl
theorem kt_3_50 : Jvm.Cond.instanceMethod ({ cls := "java/lang/String", name := "length", desc := "()I" } : Jvm.MethodName) ∈ sg_T := sg_in3 50 rfl rfl
theorem kt_3_51 : Jvm.Cond.selects "java/lang/String" ({ cls := "java/lang/String", name := "length", desc := "()I" } : Jvm.MethodName) ({ cls := "java/lang/String", name := "length", desc := "()I" } : Jvm.MethodName) ∈ sg_T := sg_in3 51 rfl rfl
theorem kt_3_52 : Jvm.Cond.code ({ cls := "java/lang/String", name := "length", desc := "()I" } : Jvm.MethodName) prog_31_method_54_code (1 : Nat) (Option.some Jvm.ClassFile.FieldType.int) ∈ sg_T := sg_in3 52 rfl rfl
theorem kt_3_53 : Jvm.Cond.methodLink "java/lang/String" (335 : Nat) ({ cls := "java/lang/String", name := "coder", desc := "()B" } : Jvm.MethodName) ∈ sg_T := sg_in3 53 rfl rfl
theorem kt_3_54 : Jvm.Cond.instanceMethod ({ cls := "java/lang/String", name := "coder", desc := "()B" } : Jvm.MethodName) ∈ sg_T := sg_in3 54 rfl rfl
theorem kt_3_55 : Jvm.Cond.selects "java/lang/String" ({ cls := "java/lang/String", name := "coder", desc := "()B" } : Jvm.MethodName) ({ cls := "java/lang/String", name := "coder", desc := "()B" } : Jvm.MethodName) ∈ sg_T := sg_in3 55 rfl rfl
theorem kt_3_56 : Jvm.Cond.code ({ cls := "java/lang/String", name := "coder", desc := "()B" } : Jvm.MethodName) prog_31_method_152_code (1 : Nat) (Option.some Jvm.ClassFile.FieldType.byte) ∈ sg_T := sg_in3 56 rfl rfl
theorem kt_3_57 : Jvm.Cond.fieldLink "java/lang/String" (38 : Nat) "java/lang/String" "COMPACT_STRINGS" "Z" ∈ sg_T := sg_in3 57 rfl rfl
theorem kt_3_58 : Jvm.Cond.methodLink "MoonlitFloor$Tokens" (80 : Nat) ({ cls := "MoonlitFloor$Tokens", name := "spells", desc := "(Ljava/lang/String;[II)Z" } : Jvm.MethodName) ∈ sg_T := sg_in3 58 rfl rfl
theorem kt_3_59 : Jvm.Cond.static ({ cls := "MoonlitFloor$Tokens", name := "spells", desc := "(Ljava/lang/String;[II)Z" } : Jvm.MethodName) ∈ sg_T := sg_in3 59 rfl rfl
theorem kt_3_60 : Jvm.Cond.code ({ cls := "MoonlitFloor$Tokens", name := "spells", desc := "(Ljava/lang/String;[II)Z" } : Jvm.MethodName) prog_8_method_5_code (4 : Nat) (Option.some Jvm.ClassFile.FieldType.boolean) ∈ sg_T := sg_in3 60 rfl rfl
theorem kt_3_61 : Jvm.Cond.methodLink "MoonlitFloor$Tokens" (84 : Nat) ({ cls := "java/lang/String", name := "charAt", desc := "(I)C" } : Jvm.MethodName) ∈ sg_T := sg_in3 61 rfl rfl
theorem kt_3_62 : Jvm.Cond.instanceMethod ({ cls := "java/lang/String", name := "charAt", desc := "(I)C" } : Jvm.MethodName) ∈ sg_T := sg_in3 62 rfl rfl
theorem kt_3_63 : Jvm.Cond.selects "java/lang/String" ({ cls := "java/lang/String", name := "charAt", desc := "(I)C" } : Jvm.MethodName) ({ cls := "java/lang/String", name := "charAt", desc := "(I)C" } : Jvm.MethodName) ∈ sg_T := sg_in3 63 rfl rfl
theorem kt_3_64 : Jvm.Cond.code ({ cls := "java/lang/String", name := "charAt", desc := "(I)C" } : Jvm.MethodName) prog_31_method_56_code (2 : Nat) (Option.some Jvm.ClassFile.FieldType.char) ∈ sg_T := sg_in3 64 rfl rfl
theorem kt_3_65 : Jvm.Cond.methodLink "java/lang/String" (492 : Nat) ({ cls := "java/lang/String", name := "isLatin1", desc := "()Z" } : Jvm.MethodName) ∈ sg_T := sg_in3 65 rfl rfl
theorem kt_3_66 : Jvm.Cond.instanceMethod ({ cls := "java/lang/String", name := "isLatin1", desc := "()Z" } : Jvm.MethodName) ∈ sg_T := sg_in3 66 rfl rfl
theorem kt_3_67 : Jvm.Cond.selects "java/lang/String" ({ cls := "java/lang/String", name := "isLatin1", desc := "()Z" } : Jvm.MethodName) ({ cls := "java/lang/String", name := "isLatin1", desc := "()Z" } : Jvm.MethodName) ∈ sg_T := sg_in3 67 rfl rfl
theorem kt_3_68 : Jvm.Cond.code ({ cls := "java/lang/String", name := "isLatin1", desc := "()Z" } : Jvm.MethodName) prog_31_method_154_code (1 : Nat) (Option.some Jvm.ClassFile.FieldType.boolean) ∈ sg_T := sg_in3 68 rfl rfl
theorem kt_3_69 : Jvm.Cond.methodLink "java/lang/String" (495 : Nat) ({ cls := "java/lang/StringLatin1", name := "charAt", desc := "([BI)C" } : Jvm.MethodName) ∈ sg_T := sg_in3 69 rfl rfl
theorem kt_3_70 : Jvm.Cond.static ({ cls := "java/lang/StringLatin1", name := "charAt", desc := "([BI)C" } : Jvm.MethodName) ∈ sg_T := sg_in3 70 rfl rfl
theorem kt_3_71 : Jvm.Cond.code ({ cls := "java/lang/StringLatin1", name := "charAt", desc := "([BI)C" } : Jvm.MethodName) prog_33_method_2_code (2 : Nat) (Option.some Jvm.ClassFile.FieldType.char) ∈ sg_T := sg_in3 71 rfl rfl
theorem kt_3_72 : Jvm.Cond.methodLink "java/lang/StringLatin1" (9 : Nat) ({ cls := "java/lang/String", name := "checkIndex", desc := "(II)V" } : Jvm.MethodName) ∈ sg_T := sg_in3 72 rfl rfl
theorem kt_3_73 : Jvm.Cond.static ({ cls := "java/lang/String", name := "checkIndex", desc := "(II)V" } : Jvm.MethodName) ∈ sg_T := sg_in3 73 rfl rfl
theorem kt_3_74 : Jvm.Cond.code ({ cls := "java/lang/String", name := "checkIndex", desc := "(II)V" } : Jvm.MethodName) prog_31_method_155_code (2 : Nat) (Option.none : Option Jvm.ClassFile.FieldType) ∈ sg_T := sg_in3 74 rfl rfl
theorem kt_3_75 : Jvm.Cond.fieldLink "java/lang/String" (1053 : Nat) "jdk/internal/util/Preconditions" "SIOOBE_FORMATTER" "Ljava/util/function/BiFunction;" ∈ sg_T := sg_in3 75 rfl rfl
theorem kt_3_77 : Jvm.Cond.methodLink "java/lang/String" (1059 : Nat) ({ cls := "jdk/internal/util/Preconditions", name := "checkIndex", desc := "(IILjava/util/function/BiFunction;)I" } : Jvm.MethodName) ∈ sg_T := sg_in3 77 rfl rfl
theorem kt_3_78 : Jvm.Cond.static ({ cls := "jdk/internal/util/Preconditions", name := "checkIndex", desc := "(IILjava/util/function/BiFunction;)I" } : Jvm.MethodName) ∈ sg_T := sg_in3 78 rfl rfl
theorem kt_3_79 : Jvm.Cond.code ({ cls := "jdk/internal/util/Preconditions", name := "checkIndex", desc := "(IILjava/util/function/BiFunction;)I" } : Jvm.MethodName) prog_51_method_11_code (3 : Nat) (Option.some Jvm.ClassFile.FieldType.int) ∈ sg_T := sg_in3 79 rfl rfl
theorem kt_3_80 : Jvm.Cond.methodLink "java/lang/String" (498 : Nat) ({ cls := "java/lang/StringUTF16", name := "charAt", desc := "([BI)C" } : Jvm.MethodName) ∈ sg_T := sg_in3 80 rfl rfl
theorem kt_3_81 : Jvm.Cond.static ({ cls := "java/lang/StringUTF16", name := "charAt", desc := "([BI)C" } : Jvm.MethodName) ∈ sg_T := sg_in3 81 rfl rfl
theorem kt_3_82 : Jvm.Cond.code ({ cls := "java/lang/StringUTF16", name := "charAt", desc := "([BI)C" } : Jvm.MethodName) prog_34_method_83_code (2 : Nat) (Option.some Jvm.ClassFile.FieldType.char) ∈ sg_T := sg_in3 82 rfl rfl
theorem kt_3_83 : Jvm.Cond.methodLink "java/lang/StringUTF16" (67 : Nat) ({ cls := "java/lang/StringUTF16", name := "checkIndex", desc := "(I[B)V" } : Jvm.MethodName) ∈ sg_T := sg_in3 83 rfl rfl
theorem kt_3_84 : Jvm.Cond.static ({ cls := "java/lang/StringUTF16", name := "checkIndex", desc := "(I[B)V" } : Jvm.MethodName) ∈ sg_T := sg_in3 84 rfl rfl
theorem kt_3_85 : Jvm.Cond.code ({ cls := "java/lang/StringUTF16", name := "checkIndex", desc := "(I[B)V" } : Jvm.MethodName) prog_34_method_91_code (2 : Nat) (Option.none : Option Jvm.ClassFile.FieldType) ∈ sg_T := sg_in3 85 rfl rfl
theorem kt_3_86 : Jvm.Cond.methodLink "java/lang/StringUTF16" (48 : Nat) ({ cls := "java/lang/StringUTF16", name := "length", desc := "([B)I" } : Jvm.MethodName) ∈ sg_T := sg_in3 86 rfl rfl
theorem kt_3_87 : Jvm.Cond.static ({ cls := "java/lang/StringUTF16", name := "length", desc := "([B)I" } : Jvm.MethodName) ∈ sg_T := sg_in3 87 rfl rfl
theorem kt_3_88 : Jvm.Cond.code ({ cls := "java/lang/StringUTF16", name := "length", desc := "([B)I" } : Jvm.MethodName) prog_34_method_6_code (1 : Nat) (Option.some Jvm.ClassFile.FieldType.int) ∈ sg_T := sg_in3 88 rfl rfl
theorem kt_3_89 : Jvm.Cond.methodLink "java/lang/StringUTF16" (414 : Nat) ({ cls := "java/lang/String", name := "checkIndex", desc := "(II)V" } : Jvm.MethodName) ∈ sg_T := sg_in3 89 rfl rfl
theorem kt_3_90 : Jvm.Cond.methodLink "java/lang/StringUTF16" (71 : Nat) ({ cls := "java/lang/StringUTF16", name := "getChar", desc := "([BI)C" } : Jvm.MethodName) ∈ sg_T := sg_in3 90 rfl rfl
theorem kt_3_91 : Jvm.Cond.static ({ cls := "java/lang/StringUTF16", name := "getChar", desc := "([BI)C" } : Jvm.MethodName) ∈ sg_T := sg_in3 91 rfl rfl
theorem kt_3_92 : Jvm.Cond.code ({ cls := "java/lang/StringUTF16", name := "getChar", desc := "([BI)C" } : Jvm.MethodName) prog_34_method_5_code (2 : Nat) (Option.some Jvm.ClassFile.FieldType.char) ∈ sg_T := sg_in3 92 rfl rfl
theorem kt_3_93 : Jvm.Cond.fieldLink "java/lang/StringUTF16" (44 : Nat) "java/lang/StringUTF16" "$assertionsDisabled" "Z" ∈ sg_T := sg_in3 93 rfl rfl
theorem kt_3_95 : Jvm.Cond.fieldLink "java/lang/StringUTF16" (59 : Nat) "java/lang/StringUTF16" "HI_BYTE_SHIFT" "I" ∈ sg_T := sg_in3 95 rfl rfl
theorem kt_3_97 : Jvm.Cond.fieldLink "java/lang/StringUTF16" (63 : Nat) "java/lang/StringUTF16" "LO_BYTE_SHIFT" "I" ∈ sg_T := sg_in3 97 rfl rfl
theorem kt_3_99 : Jvm.Cond.methodLink "MoonlitFloor$Tokens" (43 : Nat) ({ cls := "MoonlitFloor$Tokens", name := "numberOf", desc := "([III)I" } : Jvm.MethodName) ∈ sg_T := sg_in3 99 rfl rfl
theorem kt_3_100 : Jvm.Cond.static ({ cls := "MoonlitFloor$Tokens", name := "numberOf", desc := "([III)I" } : Jvm.MethodName) ∈ sg_T := sg_in3 100 rfl rfl
theorem kt_3_101 : Jvm.Cond.code ({ cls := "MoonlitFloor$Tokens", name := "numberOf", desc := "([III)I" } : Jvm.MethodName) prog_8_method_6_code (5 : Nat) (Option.some Jvm.ClassFile.FieldType.int) ∈ sg_T := sg_in3 101 rfl rfl
theorem kt_3_102 : Jvm.Cond.methodLink "MoonlitFloor$Tokens" (46 : Nat) ({ cls := "MoonlitFloor$Tokens", name := "add", desc := "(LMoonlitFloor$Sign;II)V" } : Jvm.MethodName) ∈ sg_T := sg_in3 102 rfl rfl
theorem kt_3_104 : Jvm.Cond.instanceMethod ({ cls := "MoonlitFloor$Tokens", name := "add", desc := "(LMoonlitFloor$Sign;II)V" } : Jvm.MethodName) ∈ sg_T := sg_in3 104 rfl rfl
theorem kt_3_105 : Jvm.Cond.code ({ cls := "MoonlitFloor$Tokens", name := "add", desc := "(LMoonlitFloor$Sign;II)V" } : Jvm.MethodName) prog_8_method_9_code (4 : Nat) (Option.none : Option Jvm.ClassFile.FieldType) ∈ sg_T := sg_in3 105 rfl rfl
theorem kt_3_107 : Jvm.Cond.static ({ cls := "MoonlitFloor", name := "put", desc := "([III)V" } : Jvm.MethodName) ∈ sg_T := sg_in3 107 rfl rfl
theorem kt_3_108 : Jvm.Cond.code ({ cls := "MoonlitFloor", name := "put", desc := "([III)V" } : Jvm.MethodName) prog_1_method_76_code (3 : Nat) (Option.none : Option Jvm.ClassFile.FieldType) ∈ sg_T := sg_in3 108 rfl rfl
theorem kt_3_109 : Jvm.Cond.fieldLink "MoonlitFloor$Tokens" (50 : Nat) "MoonlitFloor$Sign" "END" "LMoonlitFloor$Sign;" ∈ sg_T := sg_in3 109 rfl rfl
theorem kt_3_111 : Jvm.Cond.methodLink "MoonlitFloor$SetupReader" (43 : Nat) ({ cls := "MoonlitFloor$SetupReader", name := "readFloor", desc := "()V" } : Jvm.MethodName) ∈ sg_T := sg_in3 111 rfl rfl
theorem kt_3_113 : Jvm.Cond.instanceMethod ({ cls := "MoonlitFloor$SetupReader", name := "readFloor", desc := "()V" } : Jvm.MethodName) ∈ sg_T := sg_in3 113 rfl rfl
theorem kt_3_114 : Jvm.Cond.code ({ cls := "MoonlitFloor$SetupReader", name := "readFloor", desc := "()V" } : Jvm.MethodName) prog_6_method_7_code (3 : Nat) (Option.none : Option Jvm.ClassFile.FieldType) ∈ sg_T := sg_in3 114 rfl rfl
theorem kt_3_115 : Jvm.Cond.methodLink "MoonlitFloor$SetupReader" (89 : Nat) ({ cls := "MoonlitFloor$Tokens", name := "sign", desc := "()LMoonlitFloor$Sign;" } : Jvm.MethodName) ∈ sg_T := sg_in3 115 rfl rfl
theorem kt_3_116 : Jvm.Cond.instanceMethod ({ cls := "MoonlitFloor$Tokens", name := "sign", desc := "()LMoonlitFloor$Sign;" } : Jvm.MethodName) ∈ sg_T := sg_in3 116 rfl rfl
theorem kt_3_117 : Jvm.Cond.selects "MoonlitFloor$Tokens" ({ cls := "MoonlitFloor$Tokens", name := "sign", desc := "()LMoonlitFloor$Sign;" } : Jvm.MethodName) ({ cls := "MoonlitFloor$Tokens", name := "sign", desc := "()LMoonlitFloor$Sign;" } : Jvm.MethodName) ∈ sg_T := sg_in3 117 rfl rfl
theorem kt_3_118 : Jvm.Cond.code ({ cls := "MoonlitFloor$Tokens", name := "sign", desc := "()LMoonlitFloor$Sign;" } : Jvm.MethodName) prog_8_method_10_code (2 : Nat) (Option.some (Jvm.ClassFile.FieldType.object "MoonlitFloor$Sign")) ∈ sg_T := sg_in3 118 rfl rfl
theorem kt_3_119 : Jvm.Cond.fieldLink "MoonlitFloor$SetupReader" (111 : Nat) "MoonlitFloor$Sign" "FLOOR" "LMoonlitFloor$Sign;" ∈ sg_T := sg_in3 119 rfl rfl
theorem kt_3_121 : Jvm.Cond.methodLink "MoonlitFloor$SetupReader" (99 : Nat) ({ cls := "MoonlitFloor$SetupReader", name := "fail", desc := "(I)V" } : Jvm.MethodName) ∈ sg_T := sg_in3 121 rfl rfl
theorem kt_3_123 : Jvm.Cond.instanceMethod ({ cls := "MoonlitFloor$SetupReader", name := "fail", desc := "(I)V" } : Jvm.MethodName) ∈ sg_T := sg_in3 123 rfl rfl
theorem kt_3_124 : Jvm.Cond.code ({ cls := "MoonlitFloor$SetupReader", name := "fail", desc := "(I)V" } : Jvm.MethodName) prog_6_method_4_code (2 : Nat) (Option.none : Option Jvm.ClassFile.FieldType) ∈ sg_T := sg_in3 124 rfl rfl
theorem kt_3_125 : Jvm.Cond.methodLink "MoonlitFloor$SetupReader" (86 : Nat) ({ cls := "MoonlitFloor$Tokens", name := "start", desc := "()I" } : Jvm.MethodName) ∈ sg_T := sg_in3 125 rfl rfl
theorem kt_3_126 : Jvm.Cond.instanceMethod ({ cls := "MoonlitFloor$Tokens", name := "start", desc := "()I" } : Jvm.MethodName) ∈ sg_T := sg_in3 126 rfl rfl
theorem kt_3_127 : Jvm.Cond.selects "MoonlitFloor$Tokens" ({ cls := "MoonlitFloor$Tokens", name := "start", desc := "()I" } : Jvm.MethodName) ({ cls := "MoonlitFloor$Tokens", name := "start", desc := "()I" } : Jvm.MethodName) ∈ sg_T := sg_in3 127 rfl rfl
theorem kt_3_128 : Jvm.Cond.code ({ cls := "MoonlitFloor$Tokens", name := "start", desc := "()I" } : Jvm.MethodName) prog_8_method_11_code (1 : Nat) (Option.some Jvm.ClassFile.FieldType.int) ∈ sg_T := sg_in3 128 rfl rfl
theorem kt_3_129 : Jvm.Cond.methodLink "MoonlitFloor$SetupReader" (108 : Nat) ({ cls := "MoonlitFloor$Tokens", name := "goOn", desc := "()V" } : Jvm.MethodName) ∈ sg_T := sg_in3 129 rfl rfl
theorem kt_3_130 : Jvm.Cond.instanceMethod ({ cls := "MoonlitFloor$Tokens", name := "goOn", desc := "()V" } : Jvm.MethodName) ∈ sg_T := sg_in3 130 rfl rfl
theorem kt_3_131 : Jvm.Cond.selects "MoonlitFloor$Tokens" ({ cls := "MoonlitFloor$Tokens", name := "goOn", desc := "()V" } : Jvm.MethodName) ({ cls := "MoonlitFloor$Tokens", name := "goOn", desc := "()V" } : Jvm.MethodName) ∈ sg_T := sg_in3 131 rfl rfl
theorem kt_3_132 : Jvm.Cond.code ({ cls := "MoonlitFloor$Tokens", name := "goOn", desc := "()V" } : Jvm.MethodName) prog_8_method_15_code (1 : Nat) (Option.none : Option Jvm.ClassFile.FieldType) ∈ sg_T := sg_in3 132 rfl rfl
theorem kt_3_133 : Jvm.Cond.methodLink "MoonlitFloor$SetupReader" (114 : Nat) ({ cls := "MoonlitFloor$SetupReader", name := "takeNumber", desc := "(II)I" } : Jvm.MethodName) ∈ sg_T := sg_in3 133 rfl rfl
theorem kt_3_135 : Jvm.Cond.instanceMethod ({ cls := "MoonlitFloor$SetupReader", name := "takeNumber", desc := "(II)I" } : Jvm.MethodName) ∈ sg_T := sg_in3 135 rfl rfl
theorem kt_3_136 : Jvm.Cond.code ({ cls := "MoonlitFloor$SetupReader", name := "takeNumber", desc := "(II)I" } : Jvm.MethodName) prog_6_method_6_code (4 : Nat) (Option.some Jvm.ClassFile.FieldType.int) ∈ sg_T := sg_in3 136 rfl rfl
theorem kt_3_137 : Jvm.Cond.methodLink "MoonlitFloor$SetupReader" (105 : Nat) ({ cls := "MoonlitFloor$SetupReader", name := "number", desc := "(II)I" } : Jvm.MethodName) ∈ sg_T := sg_in3 137 rfl rfl
theorem kt_3_139 : Jvm.Cond.instanceMethod ({ cls := "MoonlitFloor$SetupReader", name := "number", desc := "(II)I" } : Jvm.MethodName) ∈ sg_T := sg_in3 139 rfl rfl
theorem kt_3_140 : Jvm.Cond.code ({ cls := "MoonlitFloor$SetupReader", name := "number", desc := "(II)I" } : Jvm.MethodName) prog_6_method_5_code (4 : Nat) (Option.some Jvm.ClassFile.FieldType.int) ∈ sg_T := sg_in3 140 rfl rfl
theorem kt_3_141 : Jvm.Cond.fieldLink "MoonlitFloor$SetupReader" (93 : Nat) "MoonlitFloor$Sign" "NUMBER" "LMoonlitFloor$Sign;" ∈ sg_T := sg_in3 141 rfl rfl
theorem kt_3_142 : Jvm.Cond.methodLink "MoonlitFloor$SetupReader" (102 : Nat) ({ cls := "MoonlitFloor$Tokens", name := "number", desc := "()I" } : Jvm.MethodName) ∈ sg_T := sg_in3 142 rfl rfl
theorem kt_3_143 : Jvm.Cond.instanceMethod ({ cls := "MoonlitFloor$Tokens", name := "number", desc := "()I" } : Jvm.MethodName) ∈ sg_T := sg_in3 143 rfl rfl
theorem kt_3_144 : Jvm.Cond.selects "MoonlitFloor$Tokens" ({ cls := "MoonlitFloor$Tokens", name := "number", desc := "()I" } : Jvm.MethodName) ({ cls := "MoonlitFloor$Tokens", name := "number", desc := "()I" } : Jvm.MethodName) ∈ sg_T := sg_in3 144 rfl rfl
theorem kt_3_145 : Jvm.Cond.code ({ cls := "MoonlitFloor$Tokens", name := "number", desc := "()I" } : Jvm.MethodName) prog_8_method_12_code (1 : Nat) (Option.some Jvm.ClassFile.FieldType.int) ∈ sg_T := sg_in3 145 rfl rfl
theorem kt_3_146 : Jvm.Cond.constant "MoonlitFloor$SetupReader" (46 : Nat) (1000000 : Int32) ∈ sg_T := sg_in3 146 rfl rfl
theorem kt_3_147 : Jvm.Cond.methodLink "MoonlitFloor$SetupReader" (54 : Nat) ({ cls := "MoonlitFloor$SetupReader", name := "readSeparator", desc := "()V" } : Jvm.MethodName) ∈ sg_T := sg_in3 147 rfl rfl
theorem kt_3_149 : Jvm.Cond.instanceMethod ({ cls := "MoonlitFloor$SetupReader", name := "readSeparator", desc := "()V" } : Jvm.MethodName) ∈ sg_T := sg_in3 149 rfl rfl
theorem kt_3_150 : Jvm.Cond.code ({ cls := "MoonlitFloor$SetupReader", name := "readSeparator", desc := "()V" } : Jvm.MethodName) prog_6_method_8_code (2 : Nat) (Option.none : Option Jvm.ClassFile.FieldType) ∈ sg_T := sg_in3 150 rfl rfl
theorem kt_3_151 : Jvm.Cond.fieldLink "MoonlitFloor$SetupReader" (129 : Nat) "MoonlitFloor$Sign" "SEMICOLON" "LMoonlitFloor$Sign;" ∈ sg_T := sg_in3 151 rfl rfl
theorem kt_3_153 : Jvm.Cond.fieldLink "MoonlitFloor$SetupReader" (132 : Nat) "MoonlitFloor$Sign" "CLOSING" "LMoonlitFloor$Sign;" ∈ sg_T := sg_in3 153 rfl rfl
theorem kt_3_155 : Jvm.Cond.methodLink "MoonlitFloor$SetupReader" (135 : Nat) ({ cls := "MoonlitFloor$SetupReader", name := "closeBracket", desc := "()V" } : Jvm.MethodName) ∈ sg_T := sg_in3 155 rfl rfl
theorem kt_3_157 : Jvm.Cond.instanceMethod ({ cls := "MoonlitFloor$SetupReader", name := "closeBracket", desc := "()V" } : Jvm.MethodName) ∈ sg_T := sg_in3 157 rfl rfl
theorem kt_3_158 : Jvm.Cond.code ({ cls := "MoonlitFloor$SetupReader", name := "closeBracket", desc := "()V" } : Jvm.MethodName) prog_6_method_9_code (3 : Nat) (Option.none : Option Jvm.ClassFile.FieldType) ∈ sg_T := sg_in3 158 rfl rfl
theorem kt_3_161 : Jvm.Cond.methodLink "MoonlitFloor$SetupReader" (152 : Nat) ({ cls := "MoonlitFloor$Tokens", name := "goBackTo", desc := "(I)V" } : Jvm.MethodName) ∈ sg_T := sg_in3 161 rfl rfl
theorem kt_3_162 : Jvm.Cond.instanceMethod ({ cls := "MoonlitFloor$Tokens", name := "goBackTo", desc := "(I)V" } : Jvm.MethodName) ∈ sg_T := sg_in3 162 rfl rfl
theorem kt_3_163 : Jvm.Cond.selects "MoonlitFloor$Tokens" ({ cls := "MoonlitFloor$Tokens", name := "goBackTo", desc := "(I)V" } : Jvm.MethodName) ({ cls := "MoonlitFloor$Tokens", name := "goBackTo", desc := "(I)V" } : Jvm.MethodName) ∈ sg_T := sg_in3 163 rfl rfl
theorem kt_3_164 : Jvm.Cond.code ({ cls := "MoonlitFloor$Tokens", name := "goBackTo", desc := "(I)V" } : Jvm.MethodName) prog_8_method_14_code (2 : Nat) (Option.none : Option Jvm.ClassFile.FieldType) ∈ sg_T := sg_in3 164 rfl rfl
theorem kt_3_165 : Jvm.Cond.fieldLink "MoonlitFloor$SetupReader" (138 : Nat) "MoonlitFloor$Sign" "END" "LMoonlitFloor$Sign;" ∈ sg_T := sg_in3 165 rfl rfl
theorem kt_3_166 : Jvm.Cond.methodLink "MoonlitFloor$SetupReader" (141 : Nat) ({ cls := "MoonlitFloor$SetupReader", name := "finish", desc := "()V" } : Jvm.MethodName) ∈ sg_T := sg_in3 166 rfl rfl
theorem kt_3_168 : Jvm.Cond.instanceMethod ({ cls := "MoonlitFloor$SetupReader", name := "finish", desc := "()V" } : Jvm.MethodName) ∈ sg_T := sg_in3 168 rfl rfl
theorem kt_3_169 : Jvm.Cond.code ({ cls := "MoonlitFloor$SetupReader", name := "finish", desc := "()V" } : Jvm.MethodName) prog_6_method_10_code (1 : Nat) (Option.none : Option Jvm.ClassFile.FieldType) ∈ sg_T := sg_in3 169 rfl rfl
theorem kt_3_170 : Jvm.Cond.methodLink "MoonlitFloor$SetupReader" (155 : Nat) ({ cls := "MoonlitFloor$World", name := "relocate", desc := "()V" } : Jvm.MethodName) ∈ sg_T := sg_in3 170 rfl rfl
theorem kt_3_171 : Jvm.Cond.instanceMethod ({ cls := "MoonlitFloor$World", name := "relocate", desc := "()V" } : Jvm.MethodName) ∈ sg_T := sg_in3 171 rfl rfl
theorem kt_3_172 : Jvm.Cond.selects "MoonlitFloor$World" ({ cls := "MoonlitFloor$World", name := "relocate", desc := "()V" } : Jvm.MethodName) ({ cls := "MoonlitFloor$World", name := "relocate", desc := "()V" } : Jvm.MethodName) ∈ sg_T := sg_in3 172 rfl rfl
theorem kt_3_173 : Jvm.Cond.code ({ cls := "MoonlitFloor$World", name := "relocate", desc := "()V" } : Jvm.MethodName) prog_10_method_29_code (2 : Nat) (Option.none : Option Jvm.ClassFile.FieldType) ∈ sg_T := sg_in3 173 rfl rfl
theorem kt_3_174 : Jvm.Cond.methodLink "MoonlitFloor$World" (109 : Nat) ({ cls := "MoonlitFloor$World", name := "isMoonOut", desc := "()Z" } : Jvm.MethodName) ∈ sg_T := sg_in3 174 rfl rfl
theorem kt_3_175 : Jvm.Cond.instanceMethod ({ cls := "MoonlitFloor$World", name := "isMoonOut", desc := "()Z" } : Jvm.MethodName) ∈ sg_T := sg_in3 175 rfl rfl
theorem kt_3_176 : Jvm.Cond.selects "MoonlitFloor$World" ({ cls := "MoonlitFloor$World", name := "isMoonOut", desc := "()Z" } : Jvm.MethodName) ({ cls := "MoonlitFloor$World", name := "isMoonOut", desc := "()Z" } : Jvm.MethodName) ∈ sg_T := sg_in3 176 rfl rfl
theorem kt_3_177 : Jvm.Cond.code ({ cls := "MoonlitFloor$World", name := "isMoonOut", desc := "()Z" } : Jvm.MethodName) prog_10_method_10_code (1 : Nat) (Option.some Jvm.ClassFile.FieldType.boolean) ∈ sg_T := sg_in3 177 rfl rfl
theorem kt_3_178 : Jvm.Cond.methodLink "MoonlitFloor$World" (101 : Nat) ({ cls := "MoonlitFloor$World", name := "moonlight", desc := "()I" } : Jvm.MethodName) ∈ sg_T := sg_in3 178 rfl rfl
theorem kt_3_179 : Jvm.Cond.instanceMethod ({ cls := "MoonlitFloor$World", name := "moonlight", desc := "()I" } : Jvm.MethodName) ∈ sg_T := sg_in3 179 rfl rfl
theorem kt_3_180 : Jvm.Cond.selects "MoonlitFloor$World" ({ cls := "MoonlitFloor$World", name := "moonlight", desc := "()I" } : Jvm.MethodName) ({ cls := "MoonlitFloor$World", name := "moonlight", desc := "()I" } : Jvm.MethodName) ∈ sg_T := sg_in3 180 rfl rfl
theorem kt_3_181 : Jvm.Cond.code ({ cls := "MoonlitFloor$World", name := "moonlight", desc := "()I" } : Jvm.MethodName) prog_10_method_9_code (2 : Nat) (Option.some Jvm.ClassFile.FieldType.int) ∈ sg_T := sg_in3 181 rfl rfl
theorem kt_3_182 : Jvm.Cond.methodLink "MoonlitFloor$World" (105 : Nat) ({ cls := "MoonlitFloor$Plan", name := "isCloudy", desc := "(I)Z" } : Jvm.MethodName) ∈ sg_T := sg_in3 182 rfl rfl
theorem kt_3_183 : Jvm.Cond.instanceMethod ({ cls := "MoonlitFloor$Plan", name := "isCloudy", desc := "(I)Z" } : Jvm.MethodName) ∈ sg_T := sg_in3 183 rfl rfl
theorem kt_3_184 : Jvm.Cond.selects "MoonlitFloor$Plan" ({ cls := "MoonlitFloor$Plan", name := "isCloudy", desc := "(I)Z" } : Jvm.MethodName) ({ cls := "MoonlitFloor$Plan", name := "isCloudy", desc := "(I)Z" } : Jvm.MethodName) ∈ sg_T := sg_in3 184 rfl rfl
theorem kt_3_185 : Jvm.Cond.code ({ cls := "MoonlitFloor$Plan", name := "isCloudy", desc := "(I)Z" } : Jvm.MethodName) prog_4_method_4_code (3 : Nat) (Option.some Jvm.ClassFile.FieldType.boolean) ∈ sg_T := sg_in3 185 rfl rfl
theorem kt_3_186 : Jvm.Cond.methodLink "MoonlitFloor$World" (113 : Nat) ({ cls := "MoonlitFloor$World", name := "liesInMoonlight", desc := "(I)Z" } : Jvm.MethodName) ∈ sg_T := sg_in3 186 rfl rfl
theorem kt_3_188 : Jvm.Cond.instanceMethod ({ cls := "MoonlitFloor$World", name := "liesInMoonlight", desc := "(I)Z" } : Jvm.MethodName) ∈ sg_T := sg_in3 188 rfl rfl
theorem kt_3_189 : Jvm.Cond.code ({ cls := "MoonlitFloor$World", name := "liesInMoonlight", desc := "(I)Z" } : Jvm.MethodName) prog_10_method_13_code (2 : Nat) (Option.some Jvm.ClassFile.FieldType.boolean) ∈ sg_T := sg_in3 189 rfl rfl
theorem kt_3_190 : Jvm.Cond.methodLink "MoonlitFloor$World" (116 : Nat) ({ cls := "MoonlitFloor$World", name := "rowOf", desc := "(I)I" } : Jvm.MethodName) ∈ sg_T := sg_in3 190 rfl rfl
theorem kt_3_191 : Jvm.Cond.instanceMethod ({ cls := "MoonlitFloor$World", name := "rowOf", desc := "(I)I" } : Jvm.MethodName) ∈ sg_T := sg_in3 191 rfl rfl
theorem kt_3_192 : Jvm.Cond.selects "MoonlitFloor$World" ({ cls := "MoonlitFloor$World", name := "rowOf", desc := "(I)I" } : Jvm.MethodName) ({ cls := "MoonlitFloor$World", name := "rowOf", desc := "(I)I" } : Jvm.MethodName) ∈ sg_T := sg_in3 192 rfl rfl
theorem kt_3_193 : Jvm.Cond.code ({ cls := "MoonlitFloor$World", name := "rowOf", desc := "(I)I" } : Jvm.MethodName) prog_10_method_6_code (2 : Nat) (Option.some Jvm.ClassFile.FieldType.int) ∈ sg_T := sg_in3 193 rfl rfl
theorem kt_3_194 : Jvm.Cond.methodLink "MoonlitFloor$World" (120 : Nat) ({ cls := "MoonlitFloor$World", name := "rowInMoonlight", desc := "()I" } : Jvm.MethodName) ∈ sg_T := sg_in3 194 rfl rfl
theorem kt_3_195 : Jvm.Cond.instanceMethod ({ cls := "MoonlitFloor$World", name := "rowInMoonlight", desc := "()I" } : Jvm.MethodName) ∈ sg_T := sg_in3 195 rfl rfl
theorem kt_3_196 : Jvm.Cond.selects "MoonlitFloor$World" ({ cls := "MoonlitFloor$World", name := "rowInMoonlight", desc := "()I" } : Jvm.MethodName) ({ cls := "MoonlitFloor$World", name := "rowInMoonlight", desc := "()I" } : Jvm.MethodName) ∈ sg_T := sg_in3 196 rfl rfl
theorem kt_3_197 : Jvm.Cond.code ({ cls := "MoonlitFloor$World", name := "rowInMoonlight", desc := "()I" } : Jvm.MethodName) prog_10_method_11_code (1 : Nat) (Option.some Jvm.ClassFile.FieldType.int) ∈ sg_T := sg_in3 197 rfl rfl
theorem kt_3_198 : Jvm.Cond.methodLink "MoonlitFloor$World" (123 : Nat) ({ cls := "MoonlitFloor$World", name := "columnOf", desc := "(I)I" } : Jvm.MethodName) ∈ sg_T := sg_in3 198 rfl rfl
theorem kt_3_199 : Jvm.Cond.instanceMethod ({ cls := "MoonlitFloor$World", name := "columnOf", desc := "(I)I" } : Jvm.MethodName) ∈ sg_T := sg_in3 199 rfl rfl
theorem kt_3_200 : Jvm.Cond.selects "MoonlitFloor$World" ({ cls := "MoonlitFloor$World", name := "columnOf", desc := "(I)I" } : Jvm.MethodName) ({ cls := "MoonlitFloor$World", name := "columnOf", desc := "(I)I" } : Jvm.MethodName) ∈ sg_T := sg_in3 200 rfl rfl
theorem kt_3_201 : Jvm.Cond.code ({ cls := "MoonlitFloor$World", name := "columnOf", desc := "(I)I" } : Jvm.MethodName) prog_10_method_7_code (2 : Nat) (Option.some Jvm.ClassFile.FieldType.int) ∈ sg_T := sg_in3 201 rfl rfl
theorem kt_3_203 : Jvm.Cond.methodLink "MoonlitFloor$World" (257 : Nat) ({ cls := "MoonlitFloor$World", name := "settle", desc := "(I)Z" } : Jvm.MethodName) ∈ sg_T := sg_in3 203 rfl rfl
theorem kt_3_205 : Jvm.Cond.instanceMethod ({ cls := "MoonlitFloor$World", name := "settle", desc := "(I)Z" } : Jvm.MethodName) ∈ sg_T := sg_in3 205 rfl rfl
theorem kt_3_206 : Jvm.Cond.code ({ cls := "MoonlitFloor$World", name := "settle", desc := "(I)Z" } : Jvm.MethodName) prog_10_method_30_code (3 : Nat) (Option.some Jvm.ClassFile.FieldType.boolean) ∈ sg_T := sg_in3 206 rfl rfl
theorem kt_3_207 : Jvm.Cond.methodLink "MoonlitFloor$SetupReader" (57 : Nat) ({ cls := "MoonlitFloor$SetupReader", name := "startsEvent", desc := "()Z" } : Jvm.MethodName) ∈ sg_T := sg_in3 207 rfl rfl
theorem kt_3_209 : Jvm.Cond.instanceMethod ({ cls := "MoonlitFloor$SetupReader", name := "startsEvent", desc := "()Z" } : Jvm.MethodName) ∈ sg_T := sg_in3 209 rfl rfl
theorem kt_3_210 : Jvm.Cond.code ({ cls := "MoonlitFloor$SetupReader", name := "startsEvent", desc := "()Z" } : Jvm.MethodName) prog_6_method_11_code (2 : Nat) (Option.some Jvm.ClassFile.FieldType.boolean) ∈ sg_T := sg_in3 210 rfl rfl
theorem kt_3_211 : Jvm.Cond.methodLink "MoonlitFloor$SetupReader" (61 : Nat) ({ cls := "MoonlitFloor$SetupReader", name := "readEvent", desc := "()I" } : Jvm.MethodName) ∈ sg_T := sg_in3 211 rfl rfl
theorem kt_3_213 : Jvm.Cond.instanceMethod ({ cls := "MoonlitFloor$SetupReader", name := "readEvent", desc := "()I" } : Jvm.MethodName) ∈ sg_T := sg_in3 213 rfl rfl
theorem kt_3_214 : Jvm.Cond.code ({ cls := "MoonlitFloor$SetupReader", name := "readEvent", desc := "()I" } : Jvm.MethodName) prog_6_method_24_code (2 : Nat) (Option.some Jvm.ClassFile.FieldType.int) ∈ sg_T := sg_in3 214 rfl rfl
theorem kt_3_215 : Jvm.Cond.fieldLink "MoonlitFloor$SetupReader" (304 : Nat) "MoonlitFloor$Sign" "REPEAT" "LMoonlitFloor$Sign;" ∈ sg_T := sg_in3 215 rfl rfl
theorem kt_3_217 : Jvm.Cond.methodLink "MoonlitFloor$SetupReader" (307 : Nat) ({ cls := "MoonlitFloor$SetupReader", name := "startEvents", desc := "()V" } : Jvm.MethodName) ∈ sg_T := sg_in3 217 rfl rfl
theorem kt_3_219 : Jvm.Cond.instanceMethod ({ cls := "MoonlitFloor$SetupReader", name := "startEvents", desc := "()V" } : Jvm.MethodName) ∈ sg_T := sg_in3 219 rfl rfl
theorem kt_3_220 : Jvm.Cond.code ({ cls := "MoonlitFloor$SetupReader", name := "startEvents", desc := "()V" } : Jvm.MethodName) prog_6_method_25_code (1 : Nat) (Option.none : Option Jvm.ClassFile.FieldType) ∈ sg_T := sg_in3 220 rfl rfl
theorem kt_3_221 : Jvm.Cond.fieldLink "MoonlitFloor$SetupReader" (310 : Nat) "MoonlitFloor$Sign" "SLEEP" "LMoonlitFloor$Sign;" ∈ sg_T := sg_in3 221 rfl rfl
theorem kt_3_223 : Jvm.Cond.methodLink "MoonlitFloor$SetupReader" (313 : Nat) ({ cls := "MoonlitFloor$World", name := "nightLength", desc := "()I" } : Jvm.MethodName) ∈ sg_T := sg_in3 223 rfl rfl
theorem kt_3_224 : Jvm.Cond.instanceMethod ({ cls := "MoonlitFloor$World", name := "nightLength", desc := "()I" } : Jvm.MethodName) ∈ sg_T := sg_in3 224 rfl rfl
theorem kt_3_225 : Jvm.Cond.selects "MoonlitFloor$World" ({ cls := "MoonlitFloor$World", name := "nightLength", desc := "()I" } : Jvm.MethodName) ({ cls := "MoonlitFloor$World", name := "nightLength", desc := "()I" } : Jvm.MethodName) ∈ sg_T := sg_in3 225 rfl rfl
theorem kt_3_226 : Jvm.Cond.code ({ cls := "MoonlitFloor$World", name := "nightLength", desc := "()I" } : Jvm.MethodName) prog_10_method_5_code (1 : Nat) (Option.some Jvm.ClassFile.FieldType.int) ∈ sg_T := sg_in3 226 rfl rfl
theorem kt_3_227 : Jvm.Cond.methodLink "MoonlitFloor$SetupReader" (319 : Nat) ({ cls := "MoonlitFloor$SetupReader", name := "takeMinutes", desc := "(I)I" } : Jvm.MethodName) ∈ sg_T := sg_in3 227 rfl rfl
theorem kt_3_229 : Jvm.Cond.instanceMethod ({ cls := "MoonlitFloor$SetupReader", name := "takeMinutes", desc := "(I)I" } : Jvm.MethodName) ∈ sg_T := sg_in3 229 rfl rfl
theorem kt_3_230 : Jvm.Cond.code ({ cls := "MoonlitFloor$SetupReader", name := "takeMinutes", desc := "(I)I" } : Jvm.MethodName) prog_6_method_28_code (2 : Nat) (Option.some Jvm.ClassFile.FieldType.int) ∈ sg_T := sg_in3 230 rfl rfl
theorem kt_3_231 : Jvm.Cond.fieldLink "MoonlitFloor$SetupReader" (323 : Nat) "MoonlitFloor$Sign" "ADVANCE" "LMoonlitFloor$Sign;" ∈ sg_T := sg_in3 231 rfl rfl
theorem kt_3_233 : Jvm.Cond.fieldLink "MoonlitFloor$SetupReader" (170 : Nat) "MoonlitFloor$1" "$SwitchMap$MoonlitFloor$Sign" "[I" ∈ sg_T := sg_in3 233 rfl rfl
theorem kt_3_235 : Jvm.Cond.methodLink "MoonlitFloor$SetupReader" (175 : Nat) ({ cls := "MoonlitFloor$Sign", name := "ordinal", desc := "()I" } : Jvm.MethodName) ∈ sg_T := sg_in3 235 rfl rfl
theorem kt_3_236 : Jvm.Cond.sameMethod "MoonlitFloor$Sign" "java/lang/Enum" "ordinal" "()I" ∈ sg_T := sg_in3 236 rfl rfl
theorem kt_3_238 : Jvm.Cond.selects "MoonlitFloor$Sign" ({ cls := "MoonlitFloor$Sign", name := "ordinal", desc := "()I" } : Jvm.MethodName) ({ cls := "java/lang/Enum", name := "ordinal", desc := "()I" } : Jvm.MethodName) ∈ sg_T := sg_in3 238 rfl rfl
theorem kt_3_239 : Jvm.Cond.instanceMethod ({ cls := "java/lang/Enum", name := "ordinal", desc := "()I" } : Jvm.MethodName) ∈ sg_T := sg_in3 239 rfl rfl
theorem kt_4_0 : Jvm.Cond.code ({ cls := "java/lang/Enum", name := "ordinal", desc := "()I" } : Jvm.MethodName) prog_20_method_2_code (1 : Nat) (Option.some Jvm.ClassFile.FieldType.int) ∈ sg_T := sg_in4 0 rfl rfl
theorem kt_4_1 : Jvm.Cond.methodLink "MoonlitFloor$SetupReader" (326 : Nat) ({ cls := "MoonlitFloor$SetupReader", name := "readSpill", desc := "()V" } : Jvm.MethodName) ∈ sg_T := sg_in4 1 rfl rfl
theorem kt_4_3 : Jvm.Cond.instanceMethod ({ cls := "MoonlitFloor$SetupReader", name := "readSpill", desc := "()V" } : Jvm.MethodName) ∈ sg_T := sg_in4 3 rfl rfl
theorem kt_4_4 : Jvm.Cond.code ({ cls := "MoonlitFloor$SetupReader", name := "readSpill", desc := "()V" } : Jvm.MethodName) prog_6_method_26_code (3 : Nat) (Option.none : Option Jvm.ClassFile.FieldType) ∈ sg_T := sg_in4 4 rfl rfl
theorem kt_4_5 : Jvm.Cond.methodLink "MoonlitFloor$SetupReader" (236 : Nat) ({ cls := "MoonlitFloor$World", name := "tileCount", desc := "()I" } : Jvm.MethodName) ∈ sg_T := sg_in4 5 rfl rfl
theorem kt_4_6 : Jvm.Cond.instanceMethod ({ cls := "MoonlitFloor$World", name := "tileCount", desc := "()I" } : Jvm.MethodName) ∈ sg_T := sg_in4 6 rfl rfl
theorem kt_4_7 : Jvm.Cond.selects "MoonlitFloor$World" ({ cls := "MoonlitFloor$World", name := "tileCount", desc := "()I" } : Jvm.MethodName) ({ cls := "MoonlitFloor$World", name := "tileCount", desc := "()I" } : Jvm.MethodName) ∈ sg_T := sg_in4 7 rfl rfl
theorem kt_4_8 : Jvm.Cond.code ({ cls := "MoonlitFloor$World", name := "tileCount", desc := "()I" } : Jvm.MethodName) prog_10_method_4_code (1 : Nat) (Option.some Jvm.ClassFile.FieldType.int) ∈ sg_T := sg_in4 8 rfl rfl
theorem kt_4_9 : Jvm.Cond.methodLink "MoonlitFloor$SetupReader" (335 : Nat) ({ cls := "MoonlitFloor$World", name := "hasRoomForBowl", desc := "(I)Z" } : Jvm.MethodName) ∈ sg_T := sg_in4 9 rfl rfl
theorem kt_4_10 : Jvm.Cond.instanceMethod ({ cls := "MoonlitFloor$World", name := "hasRoomForBowl", desc := "(I)Z" } : Jvm.MethodName) ∈ sg_T := sg_in4 10 rfl rfl
theorem kt_4_11 : Jvm.Cond.selects "MoonlitFloor$World" ({ cls := "MoonlitFloor$World", name := "hasRoomForBowl", desc := "(I)Z" } : Jvm.MethodName) ({ cls := "MoonlitFloor$World", name := "hasRoomForBowl", desc := "(I)Z" } : Jvm.MethodName) ∈ sg_T := sg_in4 11 rfl rfl
theorem kt_4_12 : Jvm.Cond.code ({ cls := "MoonlitFloor$World", name := "hasRoomForBowl", desc := "(I)Z" } : Jvm.MethodName) prog_10_method_14_code (2 : Nat) (Option.some Jvm.ClassFile.FieldType.boolean) ∈ sg_T := sg_in4 12 rfl rfl
theorem kt_4_13 : Jvm.Cond.methodLink "MoonlitFloor$SetupReader" (211 : Nat) ({ cls := "MoonlitFloor$SetupReader", name := "readCurtains", desc := "(I)V" } : Jvm.MethodName) ∈ sg_T := sg_in4 13 rfl rfl
theorem kt_4_15 : Jvm.Cond.instanceMethod ({ cls := "MoonlitFloor$SetupReader", name := "readCurtains", desc := "(I)V" } : Jvm.MethodName) ∈ sg_T := sg_in4 15 rfl rfl
theorem kt_4_16 : Jvm.Cond.code ({ cls := "MoonlitFloor$SetupReader", name := "readCurtains", desc := "(I)V" } : Jvm.MethodName) prog_6_method_18_code (4 : Nat) (Option.none : Option Jvm.ClassFile.FieldType) ∈ sg_T := sg_in4 16 rfl rfl
theorem kt_4_17 : Jvm.Cond.methodLink "MoonlitFloor$SetupReader" (329 : Nat) ({ cls := "MoonlitFloor$SetupReader", name := "readCarry", desc := "()V" } : Jvm.MethodName) ∈ sg_T := sg_in4 17 rfl rfl
theorem kt_4_19 : Jvm.Cond.instanceMethod ({ cls := "MoonlitFloor$SetupReader", name := "readCarry", desc := "()V" } : Jvm.MethodName) ∈ sg_T := sg_in4 19 rfl rfl
theorem kt_4_20 : Jvm.Cond.code ({ cls := "MoonlitFloor$SetupReader", name := "readCarry", desc := "()V" } : Jvm.MethodName) prog_6_method_27_code (2 : Nat) (Option.none : Option Jvm.ClassFile.FieldType) ∈ sg_T := sg_in4 20 rfl rfl
theorem kt_4_21 : Jvm.Cond.methodLink "MoonlitFloor$SetupReader" (332 : Nat) ({ cls := "MoonlitFloor$SetupReader", name := "readRepeat", desc := "()V" } : Jvm.MethodName) ∈ sg_T := sg_in4 21 rfl rfl
theorem kt_4_23 : Jvm.Cond.instanceMethod ({ cls := "MoonlitFloor$SetupReader", name := "readRepeat", desc := "()V" } : Jvm.MethodName) ∈ sg_T := sg_in4 23 rfl rfl
theorem kt_4_24 : Jvm.Cond.code ({ cls := "MoonlitFloor$SetupReader", name := "readRepeat", desc := "()V" } : Jvm.MethodName) prog_6_method_29_code (2 : Nat) (Option.none : Option Jvm.ClassFile.FieldType) ∈ sg_T := sg_in4 24 rfl rfl
theorem kt_4_25 : Jvm.Cond.fieldLink "MoonlitFloor$SetupReader" (339 : Nat) "MoonlitFloor$Sign" "OPENING" "LMoonlitFloor$Sign;" ∈ sg_T := sg_in4 25 rfl rfl
theorem kt_4_27 : Jvm.Cond.methodLink "MoonlitFloor$SetupReader" (342 : Nat) ({ cls := "MoonlitFloor$Tokens", name := "mark", desc := "()I" } : Jvm.MethodName) ∈ sg_T := sg_in4 27 rfl rfl
theorem kt_4_28 : Jvm.Cond.instanceMethod ({ cls := "MoonlitFloor$Tokens", name := "mark", desc := "()I" } : Jvm.MethodName) ∈ sg_T := sg_in4 28 rfl rfl
theorem kt_4_29 : Jvm.Cond.selects "MoonlitFloor$Tokens" ({ cls := "MoonlitFloor$Tokens", name := "mark", desc := "()I" } : Jvm.MethodName) ({ cls := "MoonlitFloor$Tokens", name := "mark", desc := "()I" } : Jvm.MethodName) ∈ sg_T := sg_in4 29 rfl rfl
theorem kt_4_30 : Jvm.Cond.code ({ cls := "MoonlitFloor$Tokens", name := "mark", desc := "()I" } : Jvm.MethodName) prog_8_method_13_code (1 : Nat) (Option.some Jvm.ClassFile.FieldType.int) ∈ sg_T := sg_in4 30 rfl rfl
theorem kt_4_31 : Jvm.Cond.methodLink "MoonlitFloor$SetupReader" (214 : Nat) ({ cls := "MoonlitFloor$SetupReader", name := "readTiles", desc := "(LMoonlitFloor$Sign;)V" } : Jvm.MethodName) ∈ sg_T := sg_in4 31 rfl rfl
theorem kt_4_33 : Jvm.Cond.instanceMethod ({ cls := "MoonlitFloor$SetupReader", name := "readTiles", desc := "(LMoonlitFloor$Sign;)V" } : Jvm.MethodName) ∈ sg_T := sg_in4 33 rfl rfl
theorem kt_4_34 : Jvm.Cond.code ({ cls := "MoonlitFloor$SetupReader", name := "readTiles", desc := "(LMoonlitFloor$Sign;)V" } : Jvm.MethodName) prog_6_method_19_code (4 : Nat) (Option.none : Option Jvm.ClassFile.FieldType) ∈ sg_T := sg_in4 34 rfl rfl
theorem kt_4_35 : Jvm.Cond.fieldLink "MoonlitFloor$SetupReader" (264 : Nat) "MoonlitFloor$Sign" "ROW" "LMoonlitFloor$Sign;" ∈ sg_T := sg_in4 35 rfl rfl
theorem kt_4_37 : Jvm.Cond.fieldLink "MoonlitFloor$SetupReader" (267 : Nat) "MoonlitFloor$Sign" "COLUMN" "LMoonlitFloor$Sign;" ∈ sg_T := sg_in4 37 rfl rfl
theorem kt_4_39 : Jvm.Cond.methodLink "MoonlitFloor$SetupReader" (270 : Nat) ({ cls := "MoonlitFloor$SetupReader", name := "readItem", desc := "(LMoonlitFloor$Sign;)V" } : Jvm.MethodName) ∈ sg_T := sg_in4 39 rfl rfl
theorem kt_4_41 : Jvm.Cond.instanceMethod ({ cls := "MoonlitFloor$SetupReader", name := "readItem", desc := "(LMoonlitFloor$Sign;)V" } : Jvm.MethodName) ∈ sg_T := sg_in4 41 rfl rfl
theorem kt_4_42 : Jvm.Cond.code ({ cls := "MoonlitFloor$SetupReader", name := "readItem", desc := "(LMoonlitFloor$Sign;)V" } : Jvm.MethodName) prog_6_method_20_code (11 : Nat) (Option.none : Option Jvm.ClassFile.FieldType) ∈ sg_T := sg_in4 42 rfl rfl
theorem kt_4_43 : Jvm.Cond.methodLink "MoonlitFloor$SetupReader" (273 : Nat) ({ cls := "MoonlitFloor$SetupReader", name := "countWanted", desc := "(LMoonlitFloor$Sign;III)I" } : Jvm.MethodName) ∈ sg_T := sg_in4 43 rfl rfl
theorem kt_4_45 : Jvm.Cond.instanceMethod ({ cls := "MoonlitFloor$SetupReader", name := "countWanted", desc := "(LMoonlitFloor$Sign;III)I" } : Jvm.MethodName) ∈ sg_T := sg_in4 45 rfl rfl
theorem kt_4_46 : Jvm.Cond.code ({ cls := "MoonlitFloor$SetupReader", name := "countWanted", desc := "(LMoonlitFloor$Sign;III)I" } : Jvm.MethodName) prog_6_method_21_code (7 : Nat) (Option.some Jvm.ClassFile.FieldType.int) ∈ sg_T := sg_in4 46 rfl rfl
theorem kt_4_47 : Jvm.Cond.methodLink "MoonlitFloor$SetupReader" (291 : Nat) ({ cls := "MoonlitFloor$SetupReader", name := "isWanted", desc := "(LMoonlitFloor$Sign;I)Z" } : Jvm.MethodName) ∈ sg_T := sg_in4 47 rfl rfl
theorem kt_4_49 : Jvm.Cond.instanceMethod ({ cls := "MoonlitFloor$SetupReader", name := "isWanted", desc := "(LMoonlitFloor$Sign;I)Z" } : Jvm.MethodName) ∈ sg_T := sg_in4 49 rfl rfl
theorem kt_4_50 : Jvm.Cond.code ({ cls := "MoonlitFloor$SetupReader", name := "isWanted", desc := "(LMoonlitFloor$Sign;I)Z" } : Jvm.MethodName) prog_6_method_22_code (4 : Nat) (Option.some Jvm.ClassFile.FieldType.boolean) ∈ sg_T := sg_in4 50 rfl rfl
theorem kt_4_51 : Jvm.Cond.fieldLink "MoonlitFloor$SetupReader" (277 : Nat) "MoonlitFloor$Sign" "RUG" "LMoonlitFloor$Sign;" ∈ sg_T := sg_in4 51 rfl rfl
theorem kt_4_53 : Jvm.Cond.fieldLink "MoonlitFloor$SetupReader" (298 : Nat) "MoonlitFloor$Sign" "BOWL" "LMoonlitFloor$Sign;" ∈ sg_T := sg_in4 53 rfl rfl
theorem kt_4_56 : Jvm.Cond.static ({ cls := "MoonlitFloor", name := "countMarked", desc := "([I)I" } : Jvm.MethodName) ∈ sg_T := sg_in4 56 rfl rfl
theorem kt_4_57 : Jvm.Cond.code ({ cls := "MoonlitFloor", name := "countMarked", desc := "([I)I" } : Jvm.MethodName) prog_1_method_79_code (6 : Nat) (Option.some Jvm.ClassFile.FieldType.int) ∈ sg_T := sg_in4 57 rfl rfl
theorem kt_4_58 : Jvm.Cond.methodLink "MoonlitFloor$SetupReader" (287 : Nat) ({ cls := "MoonlitFloor$SetupReader", name := "handleLine", desc := "(LMoonlitFloor$Sign;III)V" } : Jvm.MethodName) ∈ sg_T := sg_in4 58 rfl rfl
theorem kt_4_60 : Jvm.Cond.instanceMethod ({ cls := "MoonlitFloor$SetupReader", name := "handleLine", desc := "(LMoonlitFloor$Sign;III)V" } : Jvm.MethodName) ∈ sg_T := sg_in4 60 rfl rfl
theorem kt_4_61 : Jvm.Cond.code ({ cls := "MoonlitFloor$SetupReader", name := "handleLine", desc := "(LMoonlitFloor$Sign;III)V" } : Jvm.MethodName) prog_6_method_23_code (7 : Nat) (Option.none : Option Jvm.ClassFile.FieldType) ∈ sg_T := sg_in4 61 rfl rfl
theorem kt_4_62 : Jvm.Cond.methodLink "MoonlitFloor$SetupReader" (65 : Nat) ({ cls := "MoonlitFloor$World", name := "passMinutes", desc := "(I)V" } : Jvm.MethodName) ∈ sg_T := sg_in4 62 rfl rfl
theorem kt_4_63 : Jvm.Cond.instanceMethod ({ cls := "MoonlitFloor$World", name := "passMinutes", desc := "(I)V" } : Jvm.MethodName) ∈ sg_T := sg_in4 63 rfl rfl
theorem kt_4_64 : Jvm.Cond.selects "MoonlitFloor$World" ({ cls := "MoonlitFloor$World", name := "passMinutes", desc := "(I)V" } : Jvm.MethodName) ({ cls := "MoonlitFloor$World", name := "passMinutes", desc := "(I)V" } : Jvm.MethodName) ∈ sg_T := sg_in4 64 rfl rfl
theorem kt_4_65 : Jvm.Cond.code ({ cls := "MoonlitFloor$World", name := "passMinutes", desc := "(I)V" } : Jvm.MethodName) prog_10_method_16_code (3 : Nat) (Option.none : Option Jvm.ClassFile.FieldType) ∈ sg_T := sg_in4 65 rfl rfl
theorem kt_4_66 : Jvm.Cond.methodLink "MoonlitFloor$World" (136 : Nat) ({ cls := "MoonlitFloor$World", name := "passMinute", desc := "()V" } : Jvm.MethodName) ∈ sg_T := sg_in4 66 rfl rfl
theorem kt_4_67 : Jvm.Cond.instanceMethod ({ cls := "MoonlitFloor$World", name := "passMinute", desc := "()V" } : Jvm.MethodName) ∈ sg_T := sg_in4 67 rfl rfl
theorem kt_4_68 : Jvm.Cond.selects "MoonlitFloor$World" ({ cls := "MoonlitFloor$World", name := "passMinute", desc := "()V" } : Jvm.MethodName) ({ cls := "MoonlitFloor$World", name := "passMinute", desc := "()V" } : Jvm.MethodName) ∈ sg_T := sg_in4 68 rfl rfl
theorem kt_4_69 : Jvm.Cond.code ({ cls := "MoonlitFloor$World", name := "passMinute", desc := "()V" } : Jvm.MethodName) prog_10_method_17_code (1 : Nat) (Option.none : Option Jvm.ClassFile.FieldType) ∈ sg_T := sg_in4 69 rfl rfl
theorem kt_4_70 : Jvm.Cond.methodLink "MoonlitFloor$World" (139 : Nat) ({ cls := "MoonlitFloor$World", name := "moveCat", desc := "()Z" } : Jvm.MethodName) ∈ sg_T := sg_in4 70 rfl rfl
theorem kt_4_72 : Jvm.Cond.instanceMethod ({ cls := "MoonlitFloor$World", name := "moveCat", desc := "()Z" } : Jvm.MethodName) ∈ sg_T := sg_in4 72 rfl rfl
theorem kt_4_73 : Jvm.Cond.code ({ cls := "MoonlitFloor$World", name := "moveCat", desc := "()Z" } : Jvm.MethodName) prog_10_method_18_code (2 : Nat) (Option.some Jvm.ClassFile.FieldType.boolean) ∈ sg_T := sg_in4 73 rfl rfl
theorem kt_4_74 : Jvm.Cond.methodLink "MoonlitFloor$World" (179 : Nat) ({ cls := "MoonlitFloor$World", name := "neighbor", desc := "(II)I" } : Jvm.MethodName) ∈ sg_T := sg_in4 74 rfl rfl
theorem kt_4_75 : Jvm.Cond.instanceMethod ({ cls := "MoonlitFloor$World", name := "neighbor", desc := "(II)I" } : Jvm.MethodName) ∈ sg_T := sg_in4 75 rfl rfl
theorem kt_4_76 : Jvm.Cond.selects "MoonlitFloor$World" ({ cls := "MoonlitFloor$World", name := "neighbor", desc := "(II)I" } : Jvm.MethodName) ({ cls := "MoonlitFloor$World", name := "neighbor", desc := "(II)I" } : Jvm.MethodName) ∈ sg_T := sg_in4 76 rfl rfl
theorem kt_4_77 : Jvm.Cond.code ({ cls := "MoonlitFloor$World", name := "neighbor", desc := "(II)I" } : Jvm.MethodName) prog_10_method_8_code (5 : Nat) (Option.some Jvm.ClassFile.FieldType.int) ∈ sg_T := sg_in4 77 rfl rfl
theorem kt_4_78 : Jvm.Cond.methodLink "MoonlitFloor$World" (142 : Nat) ({ cls := "MoonlitFloor$World", name := "spillBowl", desc := "()V" } : Jvm.MethodName) ∈ sg_T := sg_in4 78 rfl rfl
theorem kt_4_80 : Jvm.Cond.instanceMethod ({ cls := "MoonlitFloor$World", name := "spillBowl", desc := "()V" } : Jvm.MethodName) ∈ sg_T := sg_in4 80 rfl rfl
theorem kt_4_81 : Jvm.Cond.code ({ cls := "MoonlitFloor$World", name := "spillBowl", desc := "()V" } : Jvm.MethodName) prog_10_method_19_code (1 : Nat) (Option.none : Option Jvm.ClassFile.FieldType) ∈ sg_T := sg_in4 81 rfl rfl
theorem kt_4_83 : Jvm.Cond.methodLink "MoonlitFloor$World" (192 : Nat) ({ cls := "MoonlitFloor$Walker", name := "fall", desc := "(I)V" } : Jvm.MethodName) ∈ sg_T := sg_in4 83 rfl rfl
theorem kt_4_84 : Jvm.Cond.instanceMethod ({ cls := "MoonlitFloor$Walker", name := "fall", desc := "(I)V" } : Jvm.MethodName) ∈ sg_T := sg_in4 84 rfl rfl
theorem kt_4_85 : Jvm.Cond.selects "MoonlitFloor$Walker" ({ cls := "MoonlitFloor$Walker", name := "fall", desc := "(I)V" } : Jvm.MethodName) ({ cls := "MoonlitFloor$Walker", name := "fall", desc := "(I)V" } : Jvm.MethodName) ∈ sg_T := sg_in4 85 rfl rfl
theorem kt_4_86 : Jvm.Cond.code ({ cls := "MoonlitFloor$Walker", name := "fall", desc := "(I)V" } : Jvm.MethodName) prog_9_method_7_code (2 : Nat) (Option.none : Option Jvm.ClassFile.FieldType) ∈ sg_T := sg_in4 86 rfl rfl
theorem kt_4_87 : Jvm.Cond.methodLink "MoonlitFloor$World" (195 : Nat) ({ cls := "MoonlitFloor$World", name := "distance", desc := "(II)I" } : Jvm.MethodName) ∈ sg_T := sg_in4 87 rfl rfl
theorem kt_4_89 : Jvm.Cond.instanceMethod ({ cls := "MoonlitFloor$World", name := "distance", desc := "(II)I" } : Jvm.MethodName) ∈ sg_T := sg_in4 89 rfl rfl
theorem kt_4_90 : Jvm.Cond.code ({ cls := "MoonlitFloor$World", name := "distance", desc := "(II)I" } : Jvm.MethodName) prog_10_method_21_code (3 : Nat) (Option.some Jvm.ClassFile.FieldType.int) ∈ sg_T := sg_in4 90 rfl rfl
theorem kt_4_91 : Jvm.Cond.methodLink "MoonlitFloor$World" (211 : Nat) ({ cls := "java/lang/Math", name := "abs", desc := "(I)I" } : Jvm.MethodName) ∈ sg_T := sg_in4 91 rfl rfl
theorem kt_4_92 : Jvm.Cond.static ({ cls := "java/lang/Math", name := "abs", desc := "(I)I" } : Jvm.MethodName) ∈ sg_T := sg_in4 92 rfl rfl
theorem kt_4_93 : Jvm.Cond.code ({ cls := "java/lang/Math", name := "abs", desc := "(I)I" } : Jvm.MethodName) prog_28_method_59_code (1 : Nat) (Option.some Jvm.ClassFile.FieldType.int) ∈ sg_T := sg_in4 93 rfl rfl
theorem kt_4_94 : Jvm.Cond.methodLink "MoonlitFloor$World" (201 : Nat) ({ cls := "MoonlitFloor$World", name := "startle", desc := "()V" } : Jvm.MethodName) ∈ sg_T := sg_in4 94 rfl rfl
theorem kt_4_96 : Jvm.Cond.instanceMethod ({ cls := "MoonlitFloor$World", name := "startle", desc := "()V" } : Jvm.MethodName) ∈ sg_T := sg_in4 96 rfl rfl
theorem kt_4_97 : Jvm.Cond.code ({ cls := "MoonlitFloor$World", name := "startle", desc := "()V" } : Jvm.MethodName) prog_10_method_20_code (2 : Nat) (Option.none : Option Jvm.ClassFile.FieldType) ∈ sg_T := sg_in4 97 rfl rfl
theorem kt_4_98 : Jvm.Cond.methodLink "MoonlitFloor$World" (151 : Nat) ({ cls := "MoonlitFloor$World", name := "triedSteps", desc := "()I" } : Jvm.MethodName) ∈ sg_T := sg_in4 98 rfl rfl
theorem kt_4_99 : Jvm.Cond.instanceMethod ({ cls := "MoonlitFloor$World", name := "triedSteps", desc := "()I" } : Jvm.MethodName) ∈ sg_T := sg_in4 99 rfl rfl
theorem kt_4_100 : Jvm.Cond.selects "MoonlitFloor$World" ({ cls := "MoonlitFloor$World", name := "triedSteps", desc := "()I" } : Jvm.MethodName) ({ cls := "MoonlitFloor$World", name := "triedSteps", desc := "()I" } : Jvm.MethodName) ∈ sg_T := sg_in4 100 rfl rfl
theorem kt_4_101 : Jvm.Cond.code ({ cls := "MoonlitFloor$World", name := "triedSteps", desc := "()I" } : Jvm.MethodName) prog_10_method_15_code (1 : Nat) (Option.some Jvm.ClassFile.FieldType.int) ∈ sg_T := sg_in4 101 rfl rfl
theorem kt_4_102 : Jvm.Cond.methodLink "MoonlitFloor$World" (130 : Nat) ({ cls := "java/lang/Math", name := "min", desc := "(II)I" } : Jvm.MethodName) ∈ sg_T := sg_in4 102 rfl rfl
theorem kt_4_103 : Jvm.Cond.static ({ cls := "java/lang/Math", name := "min", desc := "(II)I" } : Jvm.MethodName) ∈ sg_T := sg_in4 103 rfl rfl
theorem kt_4_104 : Jvm.Cond.code ({ cls := "java/lang/Math", name := "min", desc := "(II)I" } : Jvm.MethodName) prog_28_method_69_code (2 : Nat) (Option.some Jvm.ClassFile.FieldType.int) ∈ sg_T := sg_in4 104 rfl rfl
theorem kt_4_105 : Jvm.Cond.methodLink "MoonlitFloor$World" (154 : Nat) ({ cls := "MoonlitFloor$World", name := "walk", desc := "(I)V" } : Jvm.MethodName) ∈ sg_T := sg_in4 105 rfl rfl
theorem kt_4_107 : Jvm.Cond.instanceMethod ({ cls := "MoonlitFloor$World", name := "walk", desc := "(I)V" } : Jvm.MethodName) ∈ sg_T := sg_in4 107 rfl rfl
theorem kt_4_108 : Jvm.Cond.code ({ cls := "MoonlitFloor$World", name := "walk", desc := "(I)V" } : Jvm.MethodName) prog_10_method_22_code (5 : Nat) (Option.none : Option Jvm.ClassFile.FieldType) ∈ sg_T := sg_in4 108 rfl rfl
theorem kt_4_109 : Jvm.Cond.methodLink "MoonlitFloor$World" (214 : Nat) ({ cls := "MoonlitFloor$World", name := "canEnter", desc := "(I)Z" } : Jvm.MethodName) ∈ sg_T := sg_in4 109 rfl rfl
theorem kt_4_111 : Jvm.Cond.instanceMethod ({ cls := "MoonlitFloor$World", name := "canEnter", desc := "(I)Z" } : Jvm.MethodName) ∈ sg_T := sg_in4 111 rfl rfl
theorem kt_4_112 : Jvm.Cond.code ({ cls := "MoonlitFloor$World", name := "canEnter", desc := "(I)Z" } : Jvm.MethodName) prog_10_method_23_code (2 : Nat) (Option.some Jvm.ClassFile.FieldType.boolean) ∈ sg_T := sg_in4 112 rfl rfl
theorem kt_4_113 : Jvm.Cond.methodLink "MoonlitFloor$World" (217 : Nat) ({ cls := "MoonlitFloor$Walker", name := "turnBack", desc := "()V" } : Jvm.MethodName) ∈ sg_T := sg_in4 113 rfl rfl
theorem kt_4_114 : Jvm.Cond.instanceMethod ({ cls := "MoonlitFloor$Walker", name := "turnBack", desc := "()V" } : Jvm.MethodName) ∈ sg_T := sg_in4 114 rfl rfl
theorem kt_4_115 : Jvm.Cond.selects "MoonlitFloor$Walker" ({ cls := "MoonlitFloor$Walker", name := "turnBack", desc := "()V" } : Jvm.MethodName) ({ cls := "MoonlitFloor$Walker", name := "turnBack", desc := "()V" } : Jvm.MethodName) ∈ sg_T := sg_in4 115 rfl rfl
theorem kt_4_116 : Jvm.Cond.code ({ cls := "MoonlitFloor$Walker", name := "turnBack", desc := "()V" } : Jvm.MethodName) prog_9_method_4_code (1 : Nat) (Option.none : Option Jvm.ClassFile.FieldType) ∈ sg_T := sg_in4 116 rfl rfl
theorem kt_4_117 : Jvm.Cond.methodLink "MoonlitFloor$World" (220 : Nat) ({ cls := "MoonlitFloor$World", name := "slideRug", desc := "(II)V" } : Jvm.MethodName) ∈ sg_T := sg_in4 117 rfl rfl
theorem kt_4_119 : Jvm.Cond.instanceMethod ({ cls := "MoonlitFloor$World", name := "slideRug", desc := "(II)V" } : Jvm.MethodName) ∈ sg_T := sg_in4 119 rfl rfl
theorem kt_4_120 : Jvm.Cond.code ({ cls := "MoonlitFloor$World", name := "slideRug", desc := "(II)V" } : Jvm.MethodName) prog_10_method_24_code (4 : Nat) (Option.none : Option Jvm.ClassFile.FieldType) ∈ sg_T := sg_in4 120 rfl rfl
theorem kt_4_121 : Jvm.Cond.methodLink "MoonlitFloor$World" (236 : Nat) ({ cls := "MoonlitFloor$World", name := "hasRoomForBowl", desc := "(I)Z" } : Jvm.MethodName) ∈ sg_T := sg_in4 121 rfl rfl
theorem kt_4_122 : Jvm.Cond.methodLink "MoonlitFloor$World" (224 : Nat) ({ cls := "MoonlitFloor$World", name := "enter", desc := "(I)V" } : Jvm.MethodName) ∈ sg_T := sg_in4 122 rfl rfl
theorem kt_4_124 : Jvm.Cond.instanceMethod ({ cls := "MoonlitFloor$World", name := "enter", desc := "(I)V" } : Jvm.MethodName) ∈ sg_T := sg_in4 124 rfl rfl
theorem kt_4_125 : Jvm.Cond.code ({ cls := "MoonlitFloor$World", name := "enter", desc := "(I)V" } : Jvm.MethodName) prog_10_method_25_code (2 : Nat) (Option.none : Option Jvm.ClassFile.FieldType) ∈ sg_T := sg_in4 125 rfl rfl
theorem kt_4_126 : Jvm.Cond.methodLink "MoonlitFloor$World" (239 : Nat) ({ cls := "MoonlitFloor$Walker", name := "countStep", desc := "()V" } : Jvm.MethodName) ∈ sg_T := sg_in4 126 rfl rfl
theorem kt_4_127 : Jvm.Cond.instanceMethod ({ cls := "MoonlitFloor$Walker", name := "countStep", desc := "()V" } : Jvm.MethodName) ∈ sg_T := sg_in4 127 rfl rfl
theorem kt_4_128 : Jvm.Cond.selects "MoonlitFloor$Walker" ({ cls := "MoonlitFloor$Walker", name := "countStep", desc := "()V" } : Jvm.MethodName) ({ cls := "MoonlitFloor$Walker", name := "countStep", desc := "()V" } : Jvm.MethodName) ∈ sg_T := sg_in4 128 rfl rfl
theorem kt_4_129 : Jvm.Cond.code ({ cls := "MoonlitFloor$Walker", name := "countStep", desc := "()V" } : Jvm.MethodName) prog_9_method_5_code (1 : Nat) (Option.none : Option Jvm.ClassFile.FieldType) ∈ sg_T := sg_in4 129 rfl rfl
theorem kt_4_130 : Jvm.Cond.methodLink "MoonlitFloor$World" (233 : Nat) ({ cls := "MoonlitFloor$Walker", name := "pause", desc := "()V" } : Jvm.MethodName) ∈ sg_T := sg_in4 130 rfl rfl
theorem kt_4_131 : Jvm.Cond.instanceMethod ({ cls := "MoonlitFloor$Walker", name := "pause", desc := "()V" } : Jvm.MethodName) ∈ sg_T := sg_in4 131 rfl rfl
theorem kt_4_132 : Jvm.Cond.selects "MoonlitFloor$Walker" ({ cls := "MoonlitFloor$Walker", name := "pause", desc := "()V" } : Jvm.MethodName) ({ cls := "MoonlitFloor$Walker", name := "pause", desc := "()V" } : Jvm.MethodName) ∈ sg_T := sg_in4 132 rfl rfl
theorem kt_4_133 : Jvm.Cond.code ({ cls := "MoonlitFloor$Walker", name := "pause", desc := "()V" } : Jvm.MethodName) prog_9_method_6_code (1 : Nat) (Option.none : Option Jvm.ClassFile.FieldType) ∈ sg_T := sg_in4 133 rfl rfl
theorem kt_4_134 : Jvm.Cond.methodLink "MoonlitFloor$World" (158 : Nat) ({ cls := "MoonlitFloor$World", name := "drySpills", desc := "()V" } : Jvm.MethodName) ∈ sg_T := sg_in4 134 rfl rfl
theorem kt_4_136 : Jvm.Cond.instanceMethod ({ cls := "MoonlitFloor$World", name := "drySpills", desc := "()V" } : Jvm.MethodName) ∈ sg_T := sg_in4 136 rfl rfl
theorem kt_4_137 : Jvm.Cond.code ({ cls := "MoonlitFloor$World", name := "drySpills", desc := "()V" } : Jvm.MethodName) prog_10_method_26_code (5 : Nat) (Option.none : Option Jvm.ClassFile.FieldType) ∈ sg_T := sg_in4 137 rfl rfl
theorem kt_4_138 : Jvm.Cond.methodLink "MoonlitFloor$World" (242 : Nat) ({ cls := "MoonlitFloor$World", name := "tileCount", desc := "()I" } : Jvm.MethodName) ∈ sg_T := sg_in4 138 rfl rfl
theorem kt_4_139 : Jvm.Cond.methodLink "MoonlitFloor$World" (245 : Nat) ({ cls := "java/lang/Math", name := "max", desc := "(II)I" } : Jvm.MethodName) ∈ sg_T := sg_in4 139 rfl rfl
theorem kt_4_140 : Jvm.Cond.static ({ cls := "java/lang/Math", name := "max", desc := "(II)I" } : Jvm.MethodName) ∈ sg_T := sg_in4 140 rfl rfl
theorem kt_4_141 : Jvm.Cond.code ({ cls := "java/lang/Math", name := "max", desc := "(II)I" } : Jvm.MethodName) prog_28_method_65_code (2 : Nat) (Option.some Jvm.ClassFile.FieldType.int) ∈ sg_T := sg_in4 141 rfl rfl
theorem kt_4_142 : Jvm.Cond.methodLink "MoonlitFloor$World" (161 : Nat) ({ cls := "MoonlitFloor$World", name := "nightLength", desc := "()I" } : Jvm.MethodName) ∈ sg_T := sg_in4 142 rfl rfl
theorem kt_4_143 : Jvm.Cond.methodLink "MoonlitFloor$World" (164 : Nat) ({ cls := "MoonlitFloor$World", name := "endNight", desc := "()V" } : Jvm.MethodName) ∈ sg_T := sg_in4 143 rfl rfl
theorem kt_4_145 : Jvm.Cond.instanceMethod ({ cls := "MoonlitFloor$World", name := "endNight", desc := "()V" } : Jvm.MethodName) ∈ sg_T := sg_in4 145 rfl rfl
theorem kt_4_146 : Jvm.Cond.code ({ cls := "MoonlitFloor$World", name := "endNight", desc := "()V" } : Jvm.MethodName) prog_10_method_27_code (1 : Nat) (Option.none : Option Jvm.ClassFile.FieldType) ∈ sg_T := sg_in4 146 rfl rfl
theorem kt_4_147 : Jvm.Cond.methodLink "MoonlitFloor$World" (251 : Nat) ({ cls := "MoonlitFloor$Records", name := "add", desc := "(II)V" } : Jvm.MethodName) ∈ sg_T := sg_in4 147 rfl rfl
theorem kt_4_148 : Jvm.Cond.instanceMethod ({ cls := "MoonlitFloor$Records", name := "add", desc := "(II)V" } : Jvm.MethodName) ∈ sg_T := sg_in4 148 rfl rfl
theorem kt_4_149 : Jvm.Cond.selects "MoonlitFloor$Records" ({ cls := "MoonlitFloor$Records", name := "add", desc := "(II)V" } : Jvm.MethodName) ({ cls := "MoonlitFloor$Records", name := "add", desc := "(II)V" } : Jvm.MethodName) ∈ sg_T := sg_in4 149 rfl rfl
theorem kt_4_150 : Jvm.Cond.code ({ cls := "MoonlitFloor$Records", name := "add", desc := "(II)V" } : Jvm.MethodName) prog_5_method_5_code (5 : Nat) (Option.none : Option Jvm.ClassFile.FieldType) ∈ sg_T := sg_in4 150 rfl rfl
theorem kt_4_151 : Jvm.Cond.methodLink "MoonlitFloor$Records" (26 : Nat) ({ cls := "MoonlitFloor$Records", name := "rankFor", desc := "(I)I" } : Jvm.MethodName) ∈ sg_T := sg_in4 151 rfl rfl
theorem kt_4_152 : Jvm.Cond.instanceMethod ({ cls := "MoonlitFloor$Records", name := "rankFor", desc := "(I)I" } : Jvm.MethodName) ∈ sg_T := sg_in4 152 rfl rfl
theorem kt_4_153 : Jvm.Cond.selects "MoonlitFloor$Records" ({ cls := "MoonlitFloor$Records", name := "rankFor", desc := "(I)I" } : Jvm.MethodName) ({ cls := "MoonlitFloor$Records", name := "rankFor", desc := "(I)I" } : Jvm.MethodName) ∈ sg_T := sg_in4 153 rfl rfl
theorem kt_4_154 : Jvm.Cond.code ({ cls := "MoonlitFloor$Records", name := "rankFor", desc := "(I)I" } : Jvm.MethodName) prog_5_method_4_code (3 : Nat) (Option.some Jvm.ClassFile.FieldType.int) ∈ sg_T := sg_in4 154 rfl rfl
theorem kt_4_155 : Jvm.Cond.methodLink "MoonlitFloor$Records" (30 : Nat) ({ cls := "java/lang/Math", name := "min", desc := "(II)I" } : Jvm.MethodName) ∈ sg_T := sg_in4 155 rfl rfl
theorem kt_4_158 : Jvm.Cond.methodLink "MoonlitFloor$World" (167 : Nat) ({ cls := "MoonlitFloor$World", name := "stirCurtains", desc := "()V" } : Jvm.MethodName) ∈ sg_T := sg_in4 158 rfl rfl
theorem kt_4_160 : Jvm.Cond.instanceMethod ({ cls := "MoonlitFloor$World", name := "stirCurtains", desc := "()V" } : Jvm.MethodName) ∈ sg_T := sg_in4 160 rfl rfl
theorem kt_4_161 : Jvm.Cond.code ({ cls := "MoonlitFloor$World", name := "stirCurtains", desc := "()V" } : Jvm.MethodName) prog_10_method_28_code (3 : Nat) (Option.none : Option Jvm.ClassFile.FieldType) ∈ sg_T := sg_in4 161 rfl rfl
theorem kt_4_162 : Jvm.Cond.methodLink "MoonlitFloor$World" (170 : Nat) ({ cls := "MoonlitFloor$World", name := "relocate", desc := "()V" } : Jvm.MethodName) ∈ sg_T := sg_in4 162 rfl rfl
theorem kt_4_163 : Jvm.Cond.methodLink "MoonlitFloor$SetupReader" (71 : Nat) ({ cls := "MoonlitFloor$SetupReader", name := "readSetting", desc := "()V" } : Jvm.MethodName) ∈ sg_T := sg_in4 163 rfl rfl
theorem kt_4_165 : Jvm.Cond.instanceMethod ({ cls := "MoonlitFloor$SetupReader", name := "readSetting", desc := "()V" } : Jvm.MethodName) ∈ sg_T := sg_in4 165 rfl rfl
theorem kt_4_166 : Jvm.Cond.code ({ cls := "MoonlitFloor$SetupReader", name := "readSetting", desc := "()V" } : Jvm.MethodName) prog_6_method_12_code (3 : Nat) (Option.none : Option Jvm.ClassFile.FieldType) ∈ sg_T := sg_in4 166 rfl rfl
theorem kt_4_167 : Jvm.Cond.fieldLink "MoonlitFloor$SetupReader" (164 : Nat) "MoonlitFloor$Sign" "CLOUD" "LMoonlitFloor$Sign;" ∈ sg_T := sg_in4 167 rfl rfl
theorem kt_4_169 : Jvm.Cond.methodLink "MoonlitFloor$SetupReader" (199 : Nat) ({ cls := "MoonlitFloor$SetupReader", name := "readWalker", desc := "()V" } : Jvm.MethodName) ∈ sg_T := sg_in4 169 rfl rfl
theorem kt_4_171 : Jvm.Cond.instanceMethod ({ cls := "MoonlitFloor$SetupReader", name := "readWalker", desc := "()V" } : Jvm.MethodName) ∈ sg_T := sg_in4 171 rfl rfl
theorem kt_4_172 : Jvm.Cond.code ({ cls := "MoonlitFloor$SetupReader", name := "readWalker", desc := "()V" } : Jvm.MethodName) prog_6_method_13_code (3 : Nat) (Option.none : Option Jvm.ClassFile.FieldType) ∈ sg_T := sg_in4 172 rfl rfl
theorem kt_4_173 : Jvm.Cond.fieldLink "MoonlitFloor$SetupReader" (218 : Nat) "MoonlitFloor$Sign" "LEFT" "LMoonlitFloor$Sign;" ∈ sg_T := sg_in4 173 rfl rfl
theorem kt_4_175 : Jvm.Cond.fieldLink "MoonlitFloor$SetupReader" (221 : Nat) "MoonlitFloor$Sign" "RIGHT" "LMoonlitFloor$Sign;" ∈ sg_T := sg_in4 175 rfl rfl
theorem kt_4_177 : Jvm.Cond.methodLink "MoonlitFloor$SetupReader" (202 : Nat) ({ cls := "MoonlitFloor$SetupReader", name := "readCat", desc := "()V" } : Jvm.MethodName) ∈ sg_T := sg_in4 177 rfl rfl
theorem kt_4_179 : Jvm.Cond.instanceMethod ({ cls := "MoonlitFloor$SetupReader", name := "readCat", desc := "()V" } : Jvm.MethodName) ∈ sg_T := sg_in4 179 rfl rfl
theorem kt_4_180 : Jvm.Cond.code ({ cls := "MoonlitFloor$SetupReader", name := "readCat", desc := "()V" } : Jvm.MethodName) prog_6_method_14_code (4 : Nat) (Option.none : Option Jvm.ClassFile.FieldType) ∈ sg_T := sg_in4 180 rfl rfl
theorem kt_4_181 : Jvm.Cond.methodLink "MoonlitFloor$SetupReader" (245 : Nat) ({ cls := "MoonlitFloor$SetupReader", name := "moveOf", desc := "(LMoonlitFloor$Sign;)I" } : Jvm.MethodName) ∈ sg_T := sg_in4 181 rfl rfl
theorem kt_4_182 : Jvm.Cond.static ({ cls := "MoonlitFloor$SetupReader", name := "moveOf", desc := "(LMoonlitFloor$Sign;)I" } : Jvm.MethodName) ∈ sg_T := sg_in4 182 rfl rfl
theorem kt_4_183 : Jvm.Cond.code ({ cls := "MoonlitFloor$SetupReader", name := "moveOf", desc := "(LMoonlitFloor$Sign;)I" } : Jvm.MethodName) prog_6_method_15_code (1 : Nat) (Option.some Jvm.ClassFile.FieldType.int) ∈ sg_T := sg_in4 183 rfl rfl
theorem kt_4_184 : Jvm.Cond.methodLink "MoonlitFloor$SetupReader" (205 : Nat) ({ cls := "MoonlitFloor$SetupReader", name := "readDraught", desc := "()V" } : Jvm.MethodName) ∈ sg_T := sg_in4 184 rfl rfl
theorem kt_4_186 : Jvm.Cond.instanceMethod ({ cls := "MoonlitFloor$SetupReader", name := "readDraught", desc := "()V" } : Jvm.MethodName) ∈ sg_T := sg_in4 186 rfl rfl
theorem kt_4_187 : Jvm.Cond.code ({ cls := "MoonlitFloor$SetupReader", name := "readDraught", desc := "()V" } : Jvm.MethodName) prog_6_method_16_code (3 : Nat) (Option.none : Option Jvm.ClassFile.FieldType) ∈ sg_T := sg_in4 187 rfl rfl
theorem kt_4_188 : Jvm.Cond.methodLink "MoonlitFloor$SetupReader" (208 : Nat) ({ cls := "MoonlitFloor$SetupReader", name := "readCloud", desc := "()V" } : Jvm.MethodName) ∈ sg_T := sg_in4 188 rfl rfl
theorem kt_4_190 : Jvm.Cond.instanceMethod ({ cls := "MoonlitFloor$SetupReader", name := "readCloud", desc := "()V" } : Jvm.MethodName) ∈ sg_T := sg_in4 190 rfl rfl
theorem kt_4_191 : Jvm.Cond.code ({ cls := "MoonlitFloor$SetupReader", name := "readCloud", desc := "()V" } : Jvm.MethodName) prog_6_method_17_code (4 : Nat) (Option.none : Option Jvm.ClassFile.FieldType) ∈ sg_T := sg_in4 191 rfl rfl
theorem kt_4_192 : Jvm.Cond.classLink "MoonlitFloor" (73 : Nat) "java/lang/IllegalArgumentException" ∈ sg_T := sg_in4 192 rfl rfl
theorem kt_4_193 : Jvm.Cond.instantiable "java/lang/IllegalArgumentException" (6 : Nat) ∈ sg_T := sg_in4 193 rfl rfl
theorem kt_4_195 : Jvm.Cond.selects "java/lang/IllegalArgumentException" ({ cls := "java/lang/Throwable", name := "fillInStackTrace", desc := "(I)Ljava/lang/Throwable;" } : Jvm.MethodName) ({ cls := "java/lang/Throwable", name := "fillInStackTrace", desc := "(I)Ljava/lang/Throwable;" } : Jvm.MethodName) ∈ sg_T := sg_in4 195 rfl rfl
theorem kt_4_196 : Jvm.Cond.lays "java/lang/IllegalArgumentException" "java/lang/Throwable" "cause" "Ljava/lang/Throwable;" ∈ sg_T := sg_in4 196 rfl rfl
theorem kt_4_197 : Jvm.Cond.lays "java/lang/IllegalArgumentException" "java/lang/Throwable" "stackTrace" "[Ljava/lang/StackTraceElement;" ∈ sg_T := sg_in4 197 rfl rfl
theorem kt_4_198 : Jvm.Cond.lays "java/lang/IllegalArgumentException" "java/lang/Throwable" "suppressedExceptions" "Ljava/util/List;" ∈ sg_T := sg_in4 198 rfl rfl
theorem kt_4_199 : Jvm.Cond.lays "java/lang/IllegalArgumentException" "java/lang/Throwable" "detailMessage" "Ljava/lang/String;" ∈ sg_T := sg_in4 199 rfl rfl
theorem kt_4_200 : Jvm.Cond.lays "java/lang/IllegalArgumentException" "java/lang/Throwable" "backtrace" "Ljava/lang/Object;" ∈ sg_T := sg_in4 200 rfl rfl
theorem kt_4_202 : Jvm.Cond.methodLink "MoonlitFloor" (77 : Nat) ({ cls := "java/lang/IllegalArgumentException", name := "<init>", desc := "(Ljava/lang/String;)V" } : Jvm.MethodName) ∈ sg_T := sg_in4 202 rfl rfl
theorem kt_4_203 : Jvm.Cond.instanceMethod ({ cls := "java/lang/IllegalArgumentException", name := "<init>", desc := "(Ljava/lang/String;)V" } : Jvm.MethodName) ∈ sg_T := sg_in4 203 rfl rfl
theorem kt_4_204 : Jvm.Cond.code ({ cls := "java/lang/IllegalArgumentException", name := "<init>", desc := "(Ljava/lang/String;)V" } : Jvm.MethodName) prog_22_method_2_code (2 : Nat) (Option.none : Option Jvm.ClassFile.FieldType) ∈ sg_T := sg_in4 204 rfl rfl
theorem kt_4_205 : Jvm.Cond.methodLink "java/lang/IllegalArgumentException" (7 : Nat) ({ cls := "java/lang/RuntimeException", name := "<init>", desc := "(Ljava/lang/String;)V" } : Jvm.MethodName) ∈ sg_T := sg_in4 205 rfl rfl
theorem kt_4_206 : Jvm.Cond.lays "java/lang/IllegalArgumentException" "java/lang/Throwable" "depth" "I" ∈ sg_T := sg_in4 206 rfl rfl
theorem kt_4_207 : Jvm.Cond.superclass "java/lang/IllegalArgumentException" "java/lang/RuntimeException" ∈ sg_T := sg_in4 207 rfl rfl
theorem kt_4_208 : Jvm.Cond.methodLink "MoonlitFloor" (78 : Nat) ({ cls := "MoonlitFloor$World", name := "copyFrom", desc := "(LMoonlitFloor$World;)V" } : Jvm.MethodName) ∈ sg_T := sg_in4 208 rfl rfl
theorem kt_4_209 : Jvm.Cond.instanceMethod ({ cls := "MoonlitFloor$World", name := "copyFrom", desc := "(LMoonlitFloor$World;)V" } : Jvm.MethodName) ∈ sg_T := sg_in4 209 rfl rfl
theorem kt_4_210 : Jvm.Cond.selects "MoonlitFloor$World" ({ cls := "MoonlitFloor$World", name := "copyFrom", desc := "(LMoonlitFloor$World;)V" } : Jvm.MethodName) ({ cls := "MoonlitFloor$World", name := "copyFrom", desc := "(LMoonlitFloor$World;)V" } : Jvm.MethodName) ∈ sg_T := sg_in4 210 rfl rfl
theorem kt_4_211 : Jvm.Cond.code ({ cls := "MoonlitFloor$World", name := "copyFrom", desc := "(LMoonlitFloor$World;)V" } : Jvm.MethodName) prog_10_method_3_code (2 : Nat) (Option.none : Option Jvm.ClassFile.FieldType) ∈ sg_T := sg_in4 211 rfl rfl
theorem kt_4_212 : Jvm.Cond.methodLink "MoonlitFloor$World" (78 : Nat) ({ cls := "MoonlitFloor$Plan", name := "copyFrom", desc := "(LMoonlitFloor$Plan;)V" } : Jvm.MethodName) ∈ sg_T := sg_in4 212 rfl rfl
theorem kt_4_213 : Jvm.Cond.instanceMethod ({ cls := "MoonlitFloor$Plan", name := "copyFrom", desc := "(LMoonlitFloor$Plan;)V" } : Jvm.MethodName) ∈ sg_T := sg_in4 213 rfl rfl
theorem kt_4_214 : Jvm.Cond.selects "MoonlitFloor$Plan" ({ cls := "MoonlitFloor$Plan", name := "copyFrom", desc := "(LMoonlitFloor$Plan;)V" } : Jvm.MethodName) ({ cls := "MoonlitFloor$Plan", name := "copyFrom", desc := "(LMoonlitFloor$Plan;)V" } : Jvm.MethodName) ∈ sg_T := sg_in4 214 rfl rfl
theorem kt_4_215 : Jvm.Cond.code ({ cls := "MoonlitFloor$Plan", name := "copyFrom", desc := "(LMoonlitFloor$Plan;)V" } : Jvm.MethodName) prog_4_method_3_code (2 : Nat) (Option.none : Option Jvm.ClassFile.FieldType) ∈ sg_T := sg_in4 215 rfl rfl
theorem kt_4_217 : Jvm.Cond.static ({ cls := "MoonlitFloor", name := "copy", desc := "([I[I)V" } : Jvm.MethodName) ∈ sg_T := sg_in4 217 rfl rfl
theorem kt_4_218 : Jvm.Cond.code ({ cls := "MoonlitFloor", name := "copy", desc := "([I[I)V" } : Jvm.MethodName) prog_1_method_77_code (2 : Nat) (Option.none : Option Jvm.ClassFile.FieldType) ∈ sg_T := sg_in4 218 rfl rfl
theorem kt_4_219 : Jvm.Cond.methodLink "MoonlitFloor" (327 : Nat) ({ cls := "java/lang/Math", name := "min", desc := "(II)I" } : Jvm.MethodName) ∈ sg_T := sg_in4 219 rfl rfl
theorem kt_4_220 : Jvm.Cond.methodLink "MoonlitFloor" (332 : Nat) ({ cls := "java/lang/System", name := "arraycopy", desc := "(Ljava/lang/Object;ILjava/lang/Object;II)V" } : Jvm.MethodName) ∈ sg_T := sg_in4 220 rfl rfl
theorem kt_4_221 : Jvm.Cond.static ({ cls := "java/lang/System", name := "arraycopy", desc := "(Ljava/lang/Object;ILjava/lang/Object;II)V" } : Jvm.MethodName) ∈ sg_T := sg_in4 221 rfl rfl
theorem kt_4_222 : Jvm.Cond.native ({ cls := "java/lang/System", name := "arraycopy", desc := "(Ljava/lang/Object;ILjava/lang/Object;II)V" } : Jvm.MethodName) ∈ sg_T := sg_in4 222 rfl rfl
theorem kt_4_223 : Jvm.Cond.methodLink "MoonlitFloor$World" (82 : Nat) ({ cls := "MoonlitFloor$Walker", name := "copyFrom", desc := "(LMoonlitFloor$Walker;)V" } : Jvm.MethodName) ∈ sg_T := sg_in4 223 rfl rfl
theorem kt_4_224 : Jvm.Cond.instanceMethod ({ cls := "MoonlitFloor$Walker", name := "copyFrom", desc := "(LMoonlitFloor$Walker;)V" } : Jvm.MethodName) ∈ sg_T := sg_in4 224 rfl rfl
theorem kt_4_225 : Jvm.Cond.selects "MoonlitFloor$Walker" ({ cls := "MoonlitFloor$Walker", name := "copyFrom", desc := "(LMoonlitFloor$Walker;)V" } : Jvm.MethodName) ({ cls := "MoonlitFloor$Walker", name := "copyFrom", desc := "(LMoonlitFloor$Walker;)V" } : Jvm.MethodName) ∈ sg_T := sg_in4 225 rfl rfl
theorem kt_4_226 : Jvm.Cond.code ({ cls := "MoonlitFloor$Walker", name := "copyFrom", desc := "(LMoonlitFloor$Walker;)V" } : Jvm.MethodName) prog_9_method_3_code (2 : Nat) (Option.none : Option Jvm.ClassFile.FieldType) ∈ sg_T := sg_in4 226 rfl rfl
theorem kt_4_227 : Jvm.Cond.methodLink "MoonlitFloor$World" (85 : Nat) ({ cls := "MoonlitFloor$Records", name := "copyFrom", desc := "(LMoonlitFloor$Records;)V" } : Jvm.MethodName) ∈ sg_T := sg_in4 227 rfl rfl
theorem kt_4_228 : Jvm.Cond.instanceMethod ({ cls := "MoonlitFloor$Records", name := "copyFrom", desc := "(LMoonlitFloor$Records;)V" } : Jvm.MethodName) ∈ sg_T := sg_in4 228 rfl rfl
theorem kt_4_229 : Jvm.Cond.selects "MoonlitFloor$Records" ({ cls := "MoonlitFloor$Records", name := "copyFrom", desc := "(LMoonlitFloor$Records;)V" } : Jvm.MethodName) ({ cls := "MoonlitFloor$Records", name := "copyFrom", desc := "(LMoonlitFloor$Records;)V" } : Jvm.MethodName) ∈ sg_T := sg_in4 229 rfl rfl
theorem kt_4_230 : Jvm.Cond.code ({ cls := "MoonlitFloor$Records", name := "copyFrom", desc := "(LMoonlitFloor$Records;)V" } : Jvm.MethodName) prog_5_method_3_code (2 : Nat) (Option.none : Option Jvm.ClassFile.FieldType) ∈ sg_T := sg_in4 230 rfl rfl
theorem kt_4_233 : Jvm.Cond.methodLink "MoonlitFloor" (81 : Nat) ({ cls := "MoonlitFloor$History", name := "forgetAll", desc := "()V" } : Jvm.MethodName) ∈ sg_T := sg_in4 233 rfl rfl
theorem kt_4_234 : Jvm.Cond.instanceMethod ({ cls := "MoonlitFloor$History", name := "forgetAll", desc := "()V" } : Jvm.MethodName) ∈ sg_T := sg_in4 234 rfl rfl
theorem kt_4_235 : Jvm.Cond.selects "MoonlitFloor$History" ({ cls := "MoonlitFloor$History", name := "forgetAll", desc := "()V" } : Jvm.MethodName) ({ cls := "MoonlitFloor$History", name := "forgetAll", desc := "()V" } : Jvm.MethodName) ∈ sg_T := sg_in4 235 rfl rfl
theorem kt_4_236 : Jvm.Cond.code ({ cls := "MoonlitFloor$History", name := "forgetAll", desc := "()V" } : Jvm.MethodName) prog_3_method_7_code (1 : Nat) (Option.none : Option Jvm.ClassFile.FieldType) ∈ sg_T := sg_in4 236 rfl rfl
theorem kt_4_237 : Jvm.Cond.methodLink "MoonlitFloor$History" (54 : Nat) ({ cls := "MoonlitFloor$History", name := "forgetChanges", desc := "()V" } : Jvm.MethodName) ∈ sg_T := sg_in4 237 rfl rfl
theorem kt_4_238 : Jvm.Cond.instanceMethod ({ cls := "MoonlitFloor$History", name := "forgetChanges", desc := "()V" } : Jvm.MethodName) ∈ sg_T := sg_in4 238 rfl rfl
theorem kt_4_239 : Jvm.Cond.selects "MoonlitFloor$History" ({ cls := "MoonlitFloor$History", name := "forgetChanges", desc := "()V" } : Jvm.MethodName) ({ cls := "MoonlitFloor$History", name := "forgetChanges", desc := "()V" } : Jvm.MethodName) ∈ sg_T := sg_in4 239 rfl rfl
theorem kt_5_0 : Jvm.Cond.code ({ cls := "MoonlitFloor$History", name := "forgetChanges", desc := "()V" } : Jvm.MethodName) prog_3_method_6_code (1 : Nat) (Option.none : Option Jvm.ClassFile.FieldType) ∈ sg_T := sg_in5 0 rfl rfl
theorem kt_5_1 : Jvm.Cond.methodLink "MoonlitFloor$History" (57 : Nat) ({ cls := "java/util/Arrays", name := "fill", desc := "([II)V" } : Jvm.MethodName) ∈ sg_T := sg_in5 1 rfl rfl
theorem kt_5_2 : Jvm.Cond.methodLink "MoonlitFloor" (84 : Nat) ({ cls := "MoonlitFloor$World", name := "tileCount", desc := "()I" } : Jvm.MethodName) ∈ sg_T := sg_in5 2 rfl rfl
theorem kt_5_3 : Jvm.Cond.methodLink "MoonlitFloorLaw" (340 : Nat) ({ cls := "MoonlitFloor", name := "isLit", desc := "(I)Z" } : Jvm.MethodName) ∈ sg_T := sg_in5 3 rfl rfl
theorem kt_5_4 : Jvm.Cond.instanceMethod ({ cls := "MoonlitFloor", name := "isLit", desc := "(I)Z" } : Jvm.MethodName) ∈ sg_T := sg_in5 4 rfl rfl
theorem kt_5_5 : Jvm.Cond.selects "MoonlitFloor" ({ cls := "MoonlitFloor", name := "isLit", desc := "(I)Z" } : Jvm.MethodName) ({ cls := "MoonlitFloor", name := "isLit", desc := "(I)Z" } : Jvm.MethodName) ∈ sg_T := sg_in5 5 rfl rfl
theorem kt_5_6 : Jvm.Cond.code ({ cls := "MoonlitFloor", name := "isLit", desc := "(I)Z" } : Jvm.MethodName) prog_1_method_16_code (2 : Nat) (Option.some Jvm.ClassFile.FieldType.boolean) ∈ sg_T := sg_in5 6 rfl rfl
theorem kt_5_7 : Jvm.Cond.methodLink "MoonlitFloor" (94 : Nat) ({ cls := "MoonlitFloor", name := "requireSetup", desc := "()V" } : Jvm.MethodName) ∈ sg_T := sg_in5 7 rfl rfl
theorem kt_5_9 : Jvm.Cond.instanceMethod ({ cls := "MoonlitFloor", name := "requireSetup", desc := "()V" } : Jvm.MethodName) ∈ sg_T := sg_in5 9 rfl rfl
theorem kt_5_10 : Jvm.Cond.code ({ cls := "MoonlitFloor", name := "requireSetup", desc := "()V" } : Jvm.MethodName) prog_1_method_68_code (1 : Nat) (Option.none : Option Jvm.ClassFile.FieldType) ∈ sg_T := sg_in5 10 rfl rfl
theorem kt_5_11 : Jvm.Cond.classLink "MoonlitFloor" (291 : Nat) "java/lang/IllegalStateException" ∈ sg_T := sg_in5 11 rfl rfl
theorem kt_5_12 : Jvm.Cond.instantiable "java/lang/IllegalStateException" (6 : Nat) ∈ sg_T := sg_in5 12 rfl rfl
theorem kt_5_14 : Jvm.Cond.selects "java/lang/IllegalStateException" ({ cls := "java/lang/Throwable", name := "fillInStackTrace", desc := "(I)Ljava/lang/Throwable;" } : Jvm.MethodName) ({ cls := "java/lang/Throwable", name := "fillInStackTrace", desc := "(I)Ljava/lang/Throwable;" } : Jvm.MethodName) ∈ sg_T := sg_in5 14 rfl rfl
theorem kt_5_15 : Jvm.Cond.lays "java/lang/IllegalStateException" "java/lang/Throwable" "cause" "Ljava/lang/Throwable;" ∈ sg_T := sg_in5 15 rfl rfl
theorem kt_5_16 : Jvm.Cond.lays "java/lang/IllegalStateException" "java/lang/Throwable" "stackTrace" "[Ljava/lang/StackTraceElement;" ∈ sg_T := sg_in5 16 rfl rfl
theorem kt_5_17 : Jvm.Cond.lays "java/lang/IllegalStateException" "java/lang/Throwable" "suppressedExceptions" "Ljava/util/List;" ∈ sg_T := sg_in5 17 rfl rfl
theorem kt_5_18 : Jvm.Cond.lays "java/lang/IllegalStateException" "java/lang/Throwable" "detailMessage" "Ljava/lang/String;" ∈ sg_T := sg_in5 18 rfl rfl
theorem kt_5_19 : Jvm.Cond.lays "java/lang/IllegalStateException" "java/lang/Throwable" "backtrace" "Ljava/lang/Object;" ∈ sg_T := sg_in5 19 rfl rfl
theorem kt_5_21 : Jvm.Cond.methodLink "MoonlitFloor" (295 : Nat) ({ cls := "java/lang/IllegalStateException", name := "<init>", desc := "(Ljava/lang/String;)V" } : Jvm.MethodName) ∈ sg_T := sg_in5 21 rfl rfl
theorem kt_5_22 : Jvm.Cond.instanceMethod ({ cls := "java/lang/IllegalStateException", name := "<init>", desc := "(Ljava/lang/String;)V" } : Jvm.MethodName) ∈ sg_T := sg_in5 22 rfl rfl
theorem kt_5_23 : Jvm.Cond.code ({ cls := "java/lang/IllegalStateException", name := "<init>", desc := "(Ljava/lang/String;)V" } : Jvm.MethodName) prog_23_method_2_code (2 : Nat) (Option.none : Option Jvm.ClassFile.FieldType) ∈ sg_T := sg_in5 23 rfl rfl
theorem kt_5_24 : Jvm.Cond.methodLink "java/lang/IllegalStateException" (7 : Nat) ({ cls := "java/lang/RuntimeException", name := "<init>", desc := "(Ljava/lang/String;)V" } : Jvm.MethodName) ∈ sg_T := sg_in5 24 rfl rfl
theorem kt_5_25 : Jvm.Cond.lays "java/lang/IllegalStateException" "java/lang/Throwable" "depth" "I" ∈ sg_T := sg_in5 25 rfl rfl
theorem kt_5_26 : Jvm.Cond.superclass "java/lang/IllegalStateException" "java/lang/RuntimeException" ∈ sg_T := sg_in5 26 rfl rfl
theorem kt_5_27 : Jvm.Cond.methodLink "MoonlitFloor" (128 : Nat) ({ cls := "MoonlitFloor", name := "requireTile", desc := "(I)V" } : Jvm.MethodName) ∈ sg_T := sg_in5 27 rfl rfl
theorem kt_5_29 : Jvm.Cond.instanceMethod ({ cls := "MoonlitFloor", name := "requireTile", desc := "(I)V" } : Jvm.MethodName) ∈ sg_T := sg_in5 29 rfl rfl
theorem kt_5_30 : Jvm.Cond.code ({ cls := "MoonlitFloor", name := "requireTile", desc := "(I)V" } : Jvm.MethodName) prog_1_method_69_code (2 : Nat) (Option.none : Option Jvm.ClassFile.FieldType) ∈ sg_T := sg_in5 30 rfl rfl
theorem kt_5_32 : Jvm.Cond.methodLink "MoonlitFloor" (131 : Nat) ({ cls := "MoonlitFloor$World", name := "isTileLit", desc := "(I)Z" } : Jvm.MethodName) ∈ sg_T := sg_in5 32 rfl rfl
theorem kt_5_33 : Jvm.Cond.instanceMethod ({ cls := "MoonlitFloor$World", name := "isTileLit", desc := "(I)Z" } : Jvm.MethodName) ∈ sg_T := sg_in5 33 rfl rfl
theorem kt_5_34 : Jvm.Cond.selects "MoonlitFloor$World" ({ cls := "MoonlitFloor$World", name := "isTileLit", desc := "(I)Z" } : Jvm.MethodName) ({ cls := "MoonlitFloor$World", name := "isTileLit", desc := "(I)Z" } : Jvm.MethodName) ∈ sg_T := sg_in5 34 rfl rfl
theorem kt_5_35 : Jvm.Cond.code ({ cls := "MoonlitFloor$World", name := "isTileLit", desc := "(I)Z" } : Jvm.MethodName) prog_10_method_12_code (2 : Nat) (Option.some Jvm.ClassFile.FieldType.boolean) ∈ sg_T := sg_in5 35 rfl rfl
theorem kt_5_36 : Jvm.Cond.methodLink "MoonlitFloorLaw" (265 : Nat) ({ cls := "MoonlitFloor", name := "isCurtainClosed", desc := "(I)Z" } : Jvm.MethodName) ∈ sg_T := sg_in5 36 rfl rfl
theorem kt_5_37 : Jvm.Cond.instanceMethod ({ cls := "MoonlitFloor", name := "isCurtainClosed", desc := "(I)Z" } : Jvm.MethodName) ∈ sg_T := sg_in5 37 rfl rfl
theorem kt_5_38 : Jvm.Cond.selects "MoonlitFloor" ({ cls := "MoonlitFloor", name := "isCurtainClosed", desc := "(I)Z" } : Jvm.MethodName) ({ cls := "MoonlitFloor", name := "isCurtainClosed", desc := "(I)Z" } : Jvm.MethodName) ∈ sg_T := sg_in5 38 rfl rfl
theorem kt_5_39 : Jvm.Cond.code ({ cls := "MoonlitFloor", name := "isCurtainClosed", desc := "(I)Z" } : Jvm.MethodName) prog_1_method_17_code (2 : Nat) (Option.some Jvm.ClassFile.FieldType.boolean) ∈ sg_T := sg_in5 39 rfl rfl
theorem kt_5_40 : Jvm.Cond.methodLink "MoonlitFloor" (135 : Nat) ({ cls := "MoonlitFloor", name := "requireColumn", desc := "(I)V" } : Jvm.MethodName) ∈ sg_T := sg_in5 40 rfl rfl
theorem kt_5_42 : Jvm.Cond.instanceMethod ({ cls := "MoonlitFloor", name := "requireColumn", desc := "(I)V" } : Jvm.MethodName) ∈ sg_T := sg_in5 42 rfl rfl
theorem kt_5_43 : Jvm.Cond.code ({ cls := "MoonlitFloor", name := "requireColumn", desc := "(I)V" } : Jvm.MethodName) prog_1_method_70_code (2 : Nat) (Option.none : Option Jvm.ClassFile.FieldType) ∈ sg_T := sg_in5 43 rfl rfl
theorem kt_5_45 : Jvm.Cond.methodLink "MoonlitFloor" (141 : Nat) ({ cls := "MoonlitFloor", name := "at", desc := "([II)I" } : Jvm.MethodName) ∈ sg_T := sg_in5 45 rfl rfl
theorem kt_5_46 : Jvm.Cond.methodLink "MoonlitFloorLaw" (336 : Nat) ({ cls := "MoonlitFloor", name := "minutesUntilLit", desc := "(I)I" } : Jvm.MethodName) ∈ sg_T := sg_in5 46 rfl rfl
theorem kt_5_47 : Jvm.Cond.instanceMethod ({ cls := "MoonlitFloor", name := "minutesUntilLit", desc := "(I)I" } : Jvm.MethodName) ∈ sg_T := sg_in5 47 rfl rfl
theorem kt_5_48 : Jvm.Cond.selects "MoonlitFloor" ({ cls := "MoonlitFloor", name := "minutesUntilLit", desc := "(I)I" } : Jvm.MethodName) ({ cls := "MoonlitFloor", name := "minutesUntilLit", desc := "(I)I" } : Jvm.MethodName) ∈ sg_T := sg_in5 48 rfl rfl
theorem kt_5_49 : Jvm.Cond.code ({ cls := "MoonlitFloor", name := "minutesUntilLit", desc := "(I)I" } : Jvm.MethodName) prog_1_method_19_code (3 : Nat) (Option.some Jvm.ClassFile.FieldType.int) ∈ sg_T := sg_in5 49 rfl rfl
theorem kt_5_50 : Jvm.Cond.methodLink "MoonlitFloor" (148 : Nat) ({ cls := "MoonlitFloor$World", name := "passMinute", desc := "()V" } : Jvm.MethodName) ∈ sg_T := sg_in5 50 rfl rfl
theorem kt_5_51 : Jvm.Cond.methodLink "MoonlitFloorLaw" (199 : Nat) ({ cls := "MoonlitFloor", name := "walkerTile", desc := "()I" } : Jvm.MethodName) ∈ sg_T := sg_in5 51 rfl rfl
theorem kt_5_52 : Jvm.Cond.instanceMethod ({ cls := "MoonlitFloor", name := "walkerTile", desc := "()I" } : Jvm.MethodName) ∈ sg_T := sg_in5 52 rfl rfl
theorem kt_5_53 : Jvm.Cond.selects "MoonlitFloor" ({ cls := "MoonlitFloor", name := "walkerTile", desc := "()I" } : Jvm.MethodName) ({ cls := "MoonlitFloor", name := "walkerTile", desc := "()I" } : Jvm.MethodName) ∈ sg_T := sg_in5 53 rfl rfl
theorem kt_5_54 : Jvm.Cond.code ({ cls := "MoonlitFloor", name := "walkerTile", desc := "()I" } : Jvm.MethodName) prog_1_method_23_code (1 : Nat) (Option.some Jvm.ClassFile.FieldType.int) ∈ sg_T := sg_in5 54 rfl rfl
theorem kt_5_55 : Jvm.Cond.methodLink "MoonlitFloorLaw" (205 : Nat) ({ cls := "MoonlitFloor", name := "facesRight", desc := "()Z" } : Jvm.MethodName) ∈ sg_T := sg_in5 55 rfl rfl
theorem kt_5_56 : Jvm.Cond.instanceMethod ({ cls := "MoonlitFloor", name := "facesRight", desc := "()Z" } : Jvm.MethodName) ∈ sg_T := sg_in5 56 rfl rfl
theorem kt_5_57 : Jvm.Cond.selects "MoonlitFloor" ({ cls := "MoonlitFloor", name := "facesRight", desc := "()Z" } : Jvm.MethodName) ({ cls := "MoonlitFloor", name := "facesRight", desc := "()Z" } : Jvm.MethodName) ∈ sg_T := sg_in5 57 rfl rfl
theorem kt_5_58 : Jvm.Cond.code ({ cls := "MoonlitFloor", name := "facesRight", desc := "()Z" } : Jvm.MethodName) prog_1_method_24_code (1 : Nat) (Option.some Jvm.ClassFile.FieldType.boolean) ∈ sg_T := sg_in5 58 rfl rfl
theorem kt_5_59 : Jvm.Cond.methodLink "MoonlitFloorLaw" (221 : Nat) ({ cls := "MoonlitFloor", name := "totalSteps", desc := "()I" } : Jvm.MethodName) ∈ sg_T := sg_in5 59 rfl rfl
theorem kt_5_60 : Jvm.Cond.instanceMethod ({ cls := "MoonlitFloor", name := "totalSteps", desc := "()I" } : Jvm.MethodName) ∈ sg_T := sg_in5 60 rfl rfl
theorem kt_5_61 : Jvm.Cond.selects "MoonlitFloor" ({ cls := "MoonlitFloor", name := "totalSteps", desc := "()I" } : Jvm.MethodName) ({ cls := "MoonlitFloor", name := "totalSteps", desc := "()I" } : Jvm.MethodName) ∈ sg_T := sg_in5 61 rfl rfl
theorem kt_5_62 : Jvm.Cond.code ({ cls := "MoonlitFloor", name := "totalSteps", desc := "()I" } : Jvm.MethodName) prog_1_method_27_code (1 : Nat) (Option.some Jvm.ClassFile.FieldType.int) ∈ sg_T := sg_in5 62 rfl rfl
theorem kt_5_63 : Jvm.Cond.methodLink "MoonlitFloorLaw" (233 : Nat) ({ cls := "MoonlitFloor", name := "turnCount", desc := "()I" } : Jvm.MethodName) ∈ sg_T := sg_in5 63 rfl rfl
theorem kt_5_64 : Jvm.Cond.instanceMethod ({ cls := "MoonlitFloor", name := "turnCount", desc := "()I" } : Jvm.MethodName) ∈ sg_T := sg_in5 64 rfl rfl
theorem kt_5_65 : Jvm.Cond.selects "MoonlitFloor" ({ cls := "MoonlitFloor", name := "turnCount", desc := "()I" } : Jvm.MethodName) ({ cls := "MoonlitFloor", name := "turnCount", desc := "()I" } : Jvm.MethodName) ∈ sg_T := sg_in5 65 rfl rfl
theorem kt_5_66 : Jvm.Cond.code ({ cls := "MoonlitFloor", name := "turnCount", desc := "()I" } : Jvm.MethodName) prog_1_method_29_code (1 : Nat) (Option.some Jvm.ClassFile.FieldType.int) ∈ sg_T := sg_in5 66 rfl rfl
theorem kt_5_67 : Jvm.Cond.methodLink "MoonlitFloorLaw" (239 : Nat) ({ cls := "MoonlitFloor", name := "fallCount", desc := "()I" } : Jvm.MethodName) ∈ sg_T := sg_in5 67 rfl rfl
theorem kt_5_68 : Jvm.Cond.instanceMethod ({ cls := "MoonlitFloor", name := "fallCount", desc := "()I" } : Jvm.MethodName) ∈ sg_T := sg_in5 68 rfl rfl
theorem kt_5_69 : Jvm.Cond.selects "MoonlitFloor" ({ cls := "MoonlitFloor", name := "fallCount", desc := "()I" } : Jvm.MethodName) ({ cls := "MoonlitFloor", name := "fallCount", desc := "()I" } : Jvm.MethodName) ∈ sg_T := sg_in5 69 rfl rfl
theorem kt_5_70 : Jvm.Cond.code ({ cls := "MoonlitFloor", name := "fallCount", desc := "()I" } : Jvm.MethodName) prog_1_method_30_code (1 : Nat) (Option.some Jvm.ClassFile.FieldType.int) ∈ sg_T := sg_in5 70 rfl rfl
theorem kt_5_71 : Jvm.Cond.methodLink "MoonlitFloorLaw" (253 : Nat) ({ cls := "MoonlitFloor", name := "hasBowl", desc := "(I)Z" } : Jvm.MethodName) ∈ sg_T := sg_in5 71 rfl rfl
theorem kt_5_72 : Jvm.Cond.instanceMethod ({ cls := "MoonlitFloor", name := "hasBowl", desc := "(I)Z" } : Jvm.MethodName) ∈ sg_T := sg_in5 72 rfl rfl
theorem kt_5_73 : Jvm.Cond.selects "MoonlitFloor" ({ cls := "MoonlitFloor", name := "hasBowl", desc := "(I)Z" } : Jvm.MethodName) ({ cls := "MoonlitFloor", name := "hasBowl", desc := "(I)Z" } : Jvm.MethodName) ∈ sg_T := sg_in5 73 rfl rfl
theorem kt_5_74 : Jvm.Cond.code ({ cls := "MoonlitFloor", name := "hasBowl", desc := "(I)Z" } : Jvm.MethodName) prog_1_method_36_code (2 : Nat) (Option.some Jvm.ClassFile.FieldType.boolean) ∈ sg_T := sg_in5 74 rfl rfl
theorem kt_5_75 : Jvm.Cond.methodLink "MoonlitFloorLaw" (260 : Nat) ({ cls := "MoonlitFloor", name := "spillTime", desc := "(I)I" } : Jvm.MethodName) ∈ sg_T := sg_in5 75 rfl rfl
theorem kt_5_76 : Jvm.Cond.instanceMethod ({ cls := "MoonlitFloor", name := "spillTime", desc := "(I)I" } : Jvm.MethodName) ∈ sg_T := sg_in5 76 rfl rfl
theorem kt_5_77 : Jvm.Cond.selects "MoonlitFloor" ({ cls := "MoonlitFloor", name := "spillTime", desc := "(I)I" } : Jvm.MethodName) ({ cls := "MoonlitFloor", name := "spillTime", desc := "(I)I" } : Jvm.MethodName) ∈ sg_T := sg_in5 77 rfl rfl
theorem kt_5_78 : Jvm.Cond.code ({ cls := "MoonlitFloor", name := "spillTime", desc := "(I)I" } : Jvm.MethodName) prog_1_method_37_code (2 : Nat) (Option.some Jvm.ClassFile.FieldType.int) ∈ sg_T := sg_in5 78 rfl rfl
theorem kt_5_79 : Jvm.Cond.methodLink "MoonlitFloorLaw" (297 : Nat) ({ cls := "MoonlitFloor", name := "imbalance", desc := "()I" } : Jvm.MethodName) ∈ sg_T := sg_in5 79 rfl rfl
theorem kt_5_80 : Jvm.Cond.instanceMethod ({ cls := "MoonlitFloor", name := "imbalance", desc := "()I" } : Jvm.MethodName) ∈ sg_T := sg_in5 80 rfl rfl
theorem kt_5_81 : Jvm.Cond.selects "MoonlitFloor" ({ cls := "MoonlitFloor", name := "imbalance", desc := "()I" } : Jvm.MethodName) ({ cls := "MoonlitFloor", name := "imbalance", desc := "()I" } : Jvm.MethodName) ∈ sg_T := sg_in5 81 rfl rfl
theorem kt_5_82 : Jvm.Cond.code ({ cls := "MoonlitFloor", name := "imbalance", desc := "()I" } : Jvm.MethodName) prog_1_method_43_code (3 : Nat) (Option.some Jvm.ClassFile.FieldType.int) ∈ sg_T := sg_in5 82 rfl rfl
theorem kt_5_83 : Jvm.Cond.methodLink "MoonlitFloor" (235 : Nat) ({ cls := "MoonlitFloor", name := "sum", desc := "([I)I" } : Jvm.MethodName) ∈ sg_T := sg_in5 83 rfl rfl
theorem kt_5_84 : Jvm.Cond.static ({ cls := "MoonlitFloor", name := "sum", desc := "([I)I" } : Jvm.MethodName) ∈ sg_T := sg_in5 84 rfl rfl
theorem kt_5_85 : Jvm.Cond.code ({ cls := "MoonlitFloor", name := "sum", desc := "([I)I" } : Jvm.MethodName) prog_1_method_78_code (6 : Nat) (Option.some Jvm.ClassFile.FieldType.int) ∈ sg_T := sg_in5 85 rfl rfl
theorem kt_5_86 : Jvm.Cond.methodLink "MoonlitFloorLaw" (326 : Nat) ({ cls := "MoonlitFloor", name := "stepsAfter", desc := "(I)I" } : Jvm.MethodName) ∈ sg_T := sg_in5 86 rfl rfl
theorem kt_5_87 : Jvm.Cond.instanceMethod ({ cls := "MoonlitFloor", name := "stepsAfter", desc := "(I)I" } : Jvm.MethodName) ∈ sg_T := sg_in5 87 rfl rfl
theorem kt_5_88 : Jvm.Cond.selects "MoonlitFloor" ({ cls := "MoonlitFloor", name := "stepsAfter", desc := "(I)I" } : Jvm.MethodName) ({ cls := "MoonlitFloor", name := "stepsAfter", desc := "(I)I" } : Jvm.MethodName) ∈ sg_T := sg_in5 88 rfl rfl
theorem kt_5_89 : Jvm.Cond.code ({ cls := "MoonlitFloor", name := "stepsAfter", desc := "(I)I" } : Jvm.MethodName) prog_1_method_46_code (2 : Nat) (Option.some Jvm.ClassFile.FieldType.int) ∈ sg_T := sg_in5 89 rfl rfl
theorem kt_5_90 : Jvm.Cond.methodLink "MoonlitFloor" (238 : Nat) ({ cls := "MoonlitFloor", name := "requireForetellable", desc := "(I)V" } : Jvm.MethodName) ∈ sg_T := sg_in5 90 rfl rfl
theorem kt_5_92 : Jvm.Cond.instanceMethod ({ cls := "MoonlitFloor", name := "requireForetellable", desc := "(I)V" } : Jvm.MethodName) ∈ sg_T := sg_in5 92 rfl rfl
theorem kt_5_93 : Jvm.Cond.code ({ cls := "MoonlitFloor", name := "requireForetellable", desc := "(I)V" } : Jvm.MethodName) prog_1_method_73_code (2 : Nat) (Option.none : Option Jvm.ClassFile.FieldType) ∈ sg_T := sg_in5 93 rfl rfl
theorem kt_5_95 : Jvm.Cond.methodLink "MoonlitFloor" (241 : Nat) ({ cls := "MoonlitFloor", name := "foretellSteps", desc := "(II)I" } : Jvm.MethodName) ∈ sg_T := sg_in5 95 rfl rfl
theorem kt_5_97 : Jvm.Cond.instanceMethod ({ cls := "MoonlitFloor", name := "foretellSteps", desc := "(II)I" } : Jvm.MethodName) ∈ sg_T := sg_in5 97 rfl rfl
theorem kt_5_98 : Jvm.Cond.code ({ cls := "MoonlitFloor", name := "foretellSteps", desc := "(II)I" } : Jvm.MethodName) prog_1_method_54_code (3 : Nat) (Option.some Jvm.ClassFile.FieldType.int) ∈ sg_T := sg_in5 98 rfl rfl
theorem kt_5_99 : Jvm.Cond.methodLink "MoonlitFloor" (245 : Nat) ({ cls := "MoonlitFloor$World", name := "passMinutes", desc := "(I)V" } : Jvm.MethodName) ∈ sg_T := sg_in5 99 rfl rfl
theorem kt_5_100 : Jvm.Cond.methodLink "MoonlitFloorLaw" (329 : Nat) ({ cls := "MoonlitFloor", name := "walkerTileAfter", desc := "(I)I" } : Jvm.MethodName) ∈ sg_T := sg_in5 100 rfl rfl
theorem kt_5_101 : Jvm.Cond.instanceMethod ({ cls := "MoonlitFloor", name := "walkerTileAfter", desc := "(I)I" } : Jvm.MethodName) ∈ sg_T := sg_in5 101 rfl rfl
theorem kt_5_102 : Jvm.Cond.selects "MoonlitFloor" ({ cls := "MoonlitFloor", name := "walkerTileAfter", desc := "(I)I" } : Jvm.MethodName) ({ cls := "MoonlitFloor", name := "walkerTileAfter", desc := "(I)I" } : Jvm.MethodName) ∈ sg_T := sg_in5 102 rfl rfl
theorem kt_5_103 : Jvm.Cond.code ({ cls := "MoonlitFloor", name := "walkerTileAfter", desc := "(I)I" } : Jvm.MethodName) prog_1_method_47_code (2 : Nat) (Option.some Jvm.ClassFile.FieldType.int) ∈ sg_T := sg_in5 103 rfl rfl
theorem kt_5_104 : Jvm.Cond.methodLink "MoonlitFloorLaw" (332 : Nat) ({ cls := "MoonlitFloor", name := "spillTimeAfter", desc := "(II)I" } : Jvm.MethodName) ∈ sg_T := sg_in5 104 rfl rfl
theorem kt_5_105 : Jvm.Cond.instanceMethod ({ cls := "MoonlitFloor", name := "spillTimeAfter", desc := "(II)I" } : Jvm.MethodName) ∈ sg_T := sg_in5 105 rfl rfl
theorem kt_5_106 : Jvm.Cond.selects "MoonlitFloor" ({ cls := "MoonlitFloor", name := "spillTimeAfter", desc := "(II)I" } : Jvm.MethodName) ({ cls := "MoonlitFloor", name := "spillTimeAfter", desc := "(II)I" } : Jvm.MethodName) ∈ sg_T := sg_in5 106 rfl rfl
theorem kt_5_107 : Jvm.Cond.code ({ cls := "MoonlitFloor", name := "spillTimeAfter", desc := "(II)I" } : Jvm.MethodName) prog_1_method_48_code (3 : Nat) (Option.some Jvm.ClassFile.FieldType.int) ∈ sg_T := sg_in5 107 rfl rfl
theorem kt_5_108 : Jvm.Cond.methodLink "MoonlitFloorLaw" (372 : Nat) ({ cls := "MoonlitFloor", name := "minutesUntilFall", desc := "()I" } : Jvm.MethodName) ∈ sg_T := sg_in5 108 rfl rfl
theorem kt_5_109 : Jvm.Cond.instanceMethod ({ cls := "MoonlitFloor", name := "minutesUntilFall", desc := "()I" } : Jvm.MethodName) ∈ sg_T := sg_in5 109 rfl rfl
theorem kt_5_110 : Jvm.Cond.selects "MoonlitFloor" ({ cls := "MoonlitFloor", name := "minutesUntilFall", desc := "()I" } : Jvm.MethodName) ({ cls := "MoonlitFloor", name := "minutesUntilFall", desc := "()I" } : Jvm.MethodName) ∈ sg_T := sg_in5 110 rfl rfl
theorem kt_5_111 : Jvm.Cond.code ({ cls := "MoonlitFloor", name := "minutesUntilFall", desc := "()I" } : Jvm.MethodName) prog_1_method_50_code (2 : Nat) (Option.some Jvm.ClassFile.FieldType.int) ∈ sg_T := sg_in5 111 rfl rfl
theorem kt_5_112 : Jvm.Cond.methodLink "MoonlitFloorLaw" (350 : Nat) ({ cls := "MoonlitFloor", name := "stepsAtPace", desc := "(II)I" } : Jvm.MethodName) ∈ sg_T := sg_in5 112 rfl rfl
theorem kt_5_113 : Jvm.Cond.instanceMethod ({ cls := "MoonlitFloor", name := "stepsAtPace", desc := "(II)I" } : Jvm.MethodName) ∈ sg_T := sg_in5 113 rfl rfl
theorem kt_5_114 : Jvm.Cond.selects "MoonlitFloor" ({ cls := "MoonlitFloor", name := "stepsAtPace", desc := "(II)I" } : Jvm.MethodName) ({ cls := "MoonlitFloor", name := "stepsAtPace", desc := "(II)I" } : Jvm.MethodName) ∈ sg_T := sg_in5 114 rfl rfl
theorem kt_5_115 : Jvm.Cond.code ({ cls := "MoonlitFloor", name := "stepsAtPace", desc := "(II)I" } : Jvm.MethodName) prog_1_method_51_code (3 : Nat) (Option.some Jvm.ClassFile.FieldType.int) ∈ sg_T := sg_in5 115 rfl rfl
theorem kt_5_116 : Jvm.Cond.methodLink "MoonlitFloor" (248 : Nat) ({ cls := "MoonlitFloor", name := "requirePace", desc := "(I)V" } : Jvm.MethodName) ∈ sg_T := sg_in5 116 rfl rfl
theorem kt_5_118 : Jvm.Cond.instanceMethod ({ cls := "MoonlitFloor", name := "requirePace", desc := "(I)V" } : Jvm.MethodName) ∈ sg_T := sg_in5 118 rfl rfl
theorem kt_5_119 : Jvm.Cond.code ({ cls := "MoonlitFloor", name := "requirePace", desc := "(I)V" } : Jvm.MethodName) prog_1_method_74_code (2 : Nat) (Option.none : Option Jvm.ClassFile.FieldType) ∈ sg_T := sg_in5 119 rfl rfl
theorem kt_5_121 : Jvm.Cond.methodLink "MoonlitFloorLaw" (347 : Nat) ({ cls := "MoonlitFloor", name := "bestPace", desc := "(I)I" } : Jvm.MethodName) ∈ sg_T := sg_in5 121 rfl rfl
theorem kt_5_122 : Jvm.Cond.instanceMethod ({ cls := "MoonlitFloor", name := "bestPace", desc := "(I)I" } : Jvm.MethodName) ∈ sg_T := sg_in5 122 rfl rfl
theorem kt_5_123 : Jvm.Cond.selects "MoonlitFloor" ({ cls := "MoonlitFloor", name := "bestPace", desc := "(I)I" } : Jvm.MethodName) ({ cls := "MoonlitFloor", name := "bestPace", desc := "(I)I" } : Jvm.MethodName) ∈ sg_T := sg_in5 123 rfl rfl
theorem kt_5_124 : Jvm.Cond.code ({ cls := "MoonlitFloor", name := "bestPace", desc := "(I)I" } : Jvm.MethodName) prog_1_method_52_code (6 : Nat) (Option.some Jvm.ClassFile.FieldType.int) ∈ sg_T := sg_in5 124 rfl rfl
theorem kt_5_125 : Jvm.Cond.methodLink "MoonlitFloorLaw" (356 : Nat) ({ cls := "MoonlitFloor", name := "bestCurtain", desc := "(I)I" } : Jvm.MethodName) ∈ sg_T := sg_in5 125 rfl rfl
theorem kt_5_126 : Jvm.Cond.instanceMethod ({ cls := "MoonlitFloor", name := "bestCurtain", desc := "(I)I" } : Jvm.MethodName) ∈ sg_T := sg_in5 126 rfl rfl
theorem kt_5_127 : Jvm.Cond.selects "MoonlitFloor" ({ cls := "MoonlitFloor", name := "bestCurtain", desc := "(I)I" } : Jvm.MethodName) ({ cls := "MoonlitFloor", name := "bestCurtain", desc := "(I)I" } : Jvm.MethodName) ∈ sg_T := sg_in5 127 rfl rfl
theorem kt_5_128 : Jvm.Cond.code ({ cls := "MoonlitFloor", name := "bestCurtain", desc := "(I)I" } : Jvm.MethodName) prog_1_method_53_code (5 : Nat) (Option.some Jvm.ClassFile.FieldType.int) ∈ sg_T := sg_in5 128 rfl rfl
theorem kt_5_129 : Jvm.Cond.methodLink "MoonlitFloor" (58 : Nat) ({ cls := "MoonlitFloor", name := "put", desc := "([III)V" } : Jvm.MethodName) ∈ sg_T := sg_in5 129 rfl rfl
theorem kt_5_130 : Jvm.Cond.methodLink "MoonlitFloorLaw" (339 : Nat) ({ cls := "MoonlitFloor", name := "advance", desc := "(I)I" } : Jvm.MethodName) ∈ sg_T := sg_in5 130 rfl rfl
theorem kt_5_131 : Jvm.Cond.instanceMethod ({ cls := "MoonlitFloor", name := "advance", desc := "(I)I" } : Jvm.MethodName) ∈ sg_T := sg_in5 131 rfl rfl
theorem kt_5_132 : Jvm.Cond.selects "MoonlitFloor" ({ cls := "MoonlitFloor", name := "advance", desc := "(I)I" } : Jvm.MethodName) ({ cls := "MoonlitFloor", name := "advance", desc := "(I)I" } : Jvm.MethodName) ∈ sg_T := sg_in5 132 rfl rfl
theorem kt_5_133 : Jvm.Cond.code ({ cls := "MoonlitFloor", name := "advance", desc := "(I)I" } : Jvm.MethodName) prog_1_method_58_code (3 : Nat) (Option.some Jvm.ClassFile.FieldType.int) ∈ sg_T := sg_in5 133 rfl rfl
theorem kt_5_135 : Jvm.Cond.methodLink "MoonlitFloor" (277 : Nat) ({ cls := "MoonlitFloor$History", name := "keep", desc := "(LMoonlitFloor$World;)V" } : Jvm.MethodName) ∈ sg_T := sg_in5 135 rfl rfl
theorem kt_5_136 : Jvm.Cond.instanceMethod ({ cls := "MoonlitFloor$History", name := "keep", desc := "(LMoonlitFloor$World;)V" } : Jvm.MethodName) ∈ sg_T := sg_in5 136 rfl rfl
theorem kt_5_137 : Jvm.Cond.selects "MoonlitFloor$History" ({ cls := "MoonlitFloor$History", name := "keep", desc := "(LMoonlitFloor$World;)V" } : Jvm.MethodName) ({ cls := "MoonlitFloor$History", name := "keep", desc := "(LMoonlitFloor$World;)V" } : Jvm.MethodName) ∈ sg_T := sg_in5 137 rfl rfl
theorem kt_5_138 : Jvm.Cond.code ({ cls := "MoonlitFloor$History", name := "keep", desc := "(LMoonlitFloor$World;)V" } : Jvm.MethodName) prog_3_method_2_code (3 : Nat) (Option.none : Option Jvm.ClassFile.FieldType) ∈ sg_T := sg_in5 138 rfl rfl
theorem kt_5_139 : Jvm.Cond.methodLink "MoonlitFloor$History" (29 : Nat) ({ cls := "MoonlitFloor$History", name := "worldAt", desc := "([LMoonlitFloor$World;I)LMoonlitFloor$World;" } : Jvm.MethodName) ∈ sg_T := sg_in5 139 rfl rfl
theorem kt_5_140 : Jvm.Cond.static ({ cls := "MoonlitFloor$History", name := "worldAt", desc := "([LMoonlitFloor$World;I)LMoonlitFloor$World;" } : Jvm.MethodName) ∈ sg_T := sg_in5 140 rfl rfl
theorem kt_5_141 : Jvm.Cond.code ({ cls := "MoonlitFloor$History", name := "worldAt", desc := "([LMoonlitFloor$World;I)LMoonlitFloor$World;" } : Jvm.MethodName) prog_3_method_8_code (2 : Nat) (Option.some (Jvm.ClassFile.FieldType.object "MoonlitFloor$World")) ∈ sg_T := sg_in5 141 rfl rfl
theorem kt_5_142 : Jvm.Cond.methodLink "MoonlitFloor$History" (33 : Nat) ({ cls := "MoonlitFloor$World", name := "copyFrom", desc := "(LMoonlitFloor$World;)V" } : Jvm.MethodName) ∈ sg_T := sg_in5 142 rfl rfl
theorem kt_5_143 : Jvm.Cond.methodLink "MoonlitFloor$History" (40 : Nat) ({ cls := "java/lang/Math", name := "min", desc := "(II)I" } : Jvm.MethodName) ∈ sg_T := sg_in5 143 rfl rfl
theorem kt_5_144 : Jvm.Cond.methodLink "MoonlitFloorLaw" (353 : Nat) ({ cls := "MoonlitFloor", name := "setPace", desc := "(I)I" } : Jvm.MethodName) ∈ sg_T := sg_in5 144 rfl rfl
theorem kt_5_145 : Jvm.Cond.instanceMethod ({ cls := "MoonlitFloor", name := "setPace", desc := "(I)I" } : Jvm.MethodName) ∈ sg_T := sg_in5 145 rfl rfl
theorem kt_5_146 : Jvm.Cond.selects "MoonlitFloor" ({ cls := "MoonlitFloor", name := "setPace", desc := "(I)I" } : Jvm.MethodName) ({ cls := "MoonlitFloor", name := "setPace", desc := "(I)I" } : Jvm.MethodName) ∈ sg_T := sg_in5 146 rfl rfl
theorem kt_5_147 : Jvm.Cond.code ({ cls := "MoonlitFloor", name := "setPace", desc := "(I)I" } : Jvm.MethodName) prog_1_method_59_code (3 : Nat) (Option.some Jvm.ClassFile.FieldType.int) ∈ sg_T := sg_in5 147 rfl rfl
theorem kt_5_148 : Jvm.Cond.methodLink "MoonlitFloorLaw" (359 : Nat) ({ cls := "MoonlitFloor", name := "setCurtain", desc := "(IZ)Z" } : Jvm.MethodName) ∈ sg_T := sg_in5 148 rfl rfl
theorem kt_5_149 : Jvm.Cond.instanceMethod ({ cls := "MoonlitFloor", name := "setCurtain", desc := "(IZ)Z" } : Jvm.MethodName) ∈ sg_T := sg_in5 149 rfl rfl
theorem kt_5_150 : Jvm.Cond.selects "MoonlitFloor" ({ cls := "MoonlitFloor", name := "setCurtain", desc := "(IZ)Z" } : Jvm.MethodName) ({ cls := "MoonlitFloor", name := "setCurtain", desc := "(IZ)Z" } : Jvm.MethodName) ∈ sg_T := sg_in5 150 rfl rfl
theorem kt_5_151 : Jvm.Cond.code ({ cls := "MoonlitFloor", name := "setCurtain", desc := "(IZ)Z" } : Jvm.MethodName) prog_1_method_60_code (4 : Nat) (Option.some Jvm.ClassFile.FieldType.boolean) ∈ sg_T := sg_in5 151 rfl rfl
theorem kt_5_152 : Jvm.Cond.methodLink "MoonlitFloorLaw" (363 : Nat) ({ cls := "MoonlitFloor", name := "placeBowl", desc := "(I)I" } : Jvm.MethodName) ∈ sg_T := sg_in5 152 rfl rfl
theorem kt_5_153 : Jvm.Cond.instanceMethod ({ cls := "MoonlitFloor", name := "placeBowl", desc := "(I)I" } : Jvm.MethodName) ∈ sg_T := sg_in5 153 rfl rfl
theorem kt_5_154 : Jvm.Cond.selects "MoonlitFloor" ({ cls := "MoonlitFloor", name := "placeBowl", desc := "(I)I" } : Jvm.MethodName) ({ cls := "MoonlitFloor", name := "placeBowl", desc := "(I)I" } : Jvm.MethodName) ∈ sg_T := sg_in5 154 rfl rfl
theorem kt_5_155 : Jvm.Cond.code ({ cls := "MoonlitFloor", name := "placeBowl", desc := "(I)I" } : Jvm.MethodName) prog_1_method_61_code (2 : Nat) (Option.some Jvm.ClassFile.FieldType.int) ∈ sg_T := sg_in5 155 rfl rfl
theorem kt_5_156 : Jvm.Cond.methodLink "MoonlitFloor" (280 : Nat) ({ cls := "MoonlitFloor$World", name := "hasRoomForBowl", desc := "(I)Z" } : Jvm.MethodName) ∈ sg_T := sg_in5 156 rfl rfl
theorem kt_5_158 : Jvm.Cond.methodLink "MoonlitFloor" (208 : Nat) ({ cls := "MoonlitFloor", name := "countMarked", desc := "([I)I" } : Jvm.MethodName) ∈ sg_T := sg_in5 158 rfl rfl
theorem kt_5_159 : Jvm.Cond.methodLink "MoonlitFloorLaw" (366 : Nat) ({ cls := "MoonlitFloor", name := "mop", desc := "(I)I" } : Jvm.MethodName) ∈ sg_T := sg_in5 159 rfl rfl
theorem kt_5_160 : Jvm.Cond.instanceMethod ({ cls := "MoonlitFloor", name := "mop", desc := "(I)I" } : Jvm.MethodName) ∈ sg_T := sg_in5 160 rfl rfl
theorem kt_5_161 : Jvm.Cond.selects "MoonlitFloor" ({ cls := "MoonlitFloor", name := "mop", desc := "(I)I" } : Jvm.MethodName) ({ cls := "MoonlitFloor", name := "mop", desc := "(I)I" } : Jvm.MethodName) ∈ sg_T := sg_in5 161 rfl rfl
theorem kt_5_162 : Jvm.Cond.code ({ cls := "MoonlitFloor", name := "mop", desc := "(I)I" } : Jvm.MethodName) prog_1_method_62_code (3 : Nat) (Option.some Jvm.ClassFile.FieldType.int) ∈ sg_T := sg_in5 162 rfl rfl
theorem kt_5_164 : Jvm.Cond.methodLink "MoonlitFloorLaw" (369 : Nat) ({ cls := "MoonlitFloor", name := "turnWalker", desc := "()Z" } : Jvm.MethodName) ∈ sg_T := sg_in5 164 rfl rfl
theorem kt_5_165 : Jvm.Cond.instanceMethod ({ cls := "MoonlitFloor", name := "turnWalker", desc := "()Z" } : Jvm.MethodName) ∈ sg_T := sg_in5 165 rfl rfl
theorem kt_5_166 : Jvm.Cond.selects "MoonlitFloor" ({ cls := "MoonlitFloor", name := "turnWalker", desc := "()Z" } : Jvm.MethodName) ({ cls := "MoonlitFloor", name := "turnWalker", desc := "()Z" } : Jvm.MethodName) ∈ sg_T := sg_in5 166 rfl rfl
theorem kt_5_167 : Jvm.Cond.code ({ cls := "MoonlitFloor", name := "turnWalker", desc := "()Z" } : Jvm.MethodName) prog_1_method_63_code (1 : Nat) (Option.some Jvm.ClassFile.FieldType.boolean) ∈ sg_T := sg_in5 167 rfl rfl
theorem kt_5_168 : Jvm.Cond.methodLink "MoonlitFloorLaw" (378 : Nat) ({ cls := "MoonlitFloor", name := "undoCount", desc := "()I" } : Jvm.MethodName) ∈ sg_T := sg_in5 168 rfl rfl
theorem kt_5_169 : Jvm.Cond.instanceMethod ({ cls := "MoonlitFloor", name := "undoCount", desc := "()I" } : Jvm.MethodName) ∈ sg_T := sg_in5 169 rfl rfl
theorem kt_5_170 : Jvm.Cond.selects "MoonlitFloor" ({ cls := "MoonlitFloor", name := "undoCount", desc := "()I" } : Jvm.MethodName) ({ cls := "MoonlitFloor", name := "undoCount", desc := "()I" } : Jvm.MethodName) ∈ sg_T := sg_in5 170 rfl rfl
theorem kt_5_171 : Jvm.Cond.code ({ cls := "MoonlitFloor", name := "undoCount", desc := "()I" } : Jvm.MethodName) prog_1_method_65_code (1 : Nat) (Option.some Jvm.ClassFile.FieldType.int) ∈ sg_T := sg_in5 171 rfl rfl
theorem kt_5_172 : Jvm.Cond.methodLink "MoonlitFloorLaw" (320 : Nat) ({ cls := "MoonlitFloor", name := "saveState", desc := "(I)I" } : Jvm.MethodName) ∈ sg_T := sg_in5 172 rfl rfl
theorem kt_5_173 : Jvm.Cond.instanceMethod ({ cls := "MoonlitFloor", name := "saveState", desc := "(I)I" } : Jvm.MethodName) ∈ sg_T := sg_in5 173 rfl rfl
theorem kt_5_174 : Jvm.Cond.selects "MoonlitFloor" ({ cls := "MoonlitFloor", name := "saveState", desc := "(I)I" } : Jvm.MethodName) ({ cls := "MoonlitFloor", name := "saveState", desc := "(I)I" } : Jvm.MethodName) ∈ sg_T := sg_in5 174 rfl rfl
theorem kt_5_175 : Jvm.Cond.code ({ cls := "MoonlitFloor", name := "saveState", desc := "(I)I" } : Jvm.MethodName) prog_1_method_66_code (2 : Nat) (Option.some Jvm.ClassFile.FieldType.int) ∈ sg_T := sg_in5 175 rfl rfl
theorem kt_5_176 : Jvm.Cond.methodLink "MoonlitFloor" (297 : Nat) ({ cls := "MoonlitFloor", name := "requireSlot", desc := "(I)V" } : Jvm.MethodName) ∈ sg_T := sg_in5 176 rfl rfl
theorem kt_5_178 : Jvm.Cond.instanceMethod ({ cls := "MoonlitFloor", name := "requireSlot", desc := "(I)V" } : Jvm.MethodName) ∈ sg_T := sg_in5 178 rfl rfl
theorem kt_5_179 : Jvm.Cond.code ({ cls := "MoonlitFloor", name := "requireSlot", desc := "(I)V" } : Jvm.MethodName) prog_1_method_72_code (2 : Nat) (Option.none : Option Jvm.ClassFile.FieldType) ∈ sg_T := sg_in5 179 rfl rfl
theorem kt_5_181 : Jvm.Cond.methodLink "MoonlitFloor" (300 : Nat) ({ cls := "MoonlitFloor$History", name := "store", desc := "(ILMoonlitFloor$World;)V" } : Jvm.MethodName) ∈ sg_T := sg_in5 181 rfl rfl
theorem kt_5_182 : Jvm.Cond.instanceMethod ({ cls := "MoonlitFloor$History", name := "store", desc := "(ILMoonlitFloor$World;)V" } : Jvm.MethodName) ∈ sg_T := sg_in5 182 rfl rfl
theorem kt_5_183 : Jvm.Cond.selects "MoonlitFloor$History" ({ cls := "MoonlitFloor$History", name := "store", desc := "(ILMoonlitFloor$World;)V" } : Jvm.MethodName) ({ cls := "MoonlitFloor$History", name := "store", desc := "(ILMoonlitFloor$World;)V" } : Jvm.MethodName) ∈ sg_T := sg_in5 183 rfl rfl
theorem kt_5_184 : Jvm.Cond.code ({ cls := "MoonlitFloor$History", name := "store", desc := "(ILMoonlitFloor$World;)V" } : Jvm.MethodName) prog_3_method_4_code (4 : Nat) (Option.none : Option Jvm.ClassFile.FieldType) ∈ sg_T := sg_in5 184 rfl rfl
theorem kt_5_186 : Jvm.Cond.methodLink "MoonlitFloorLaw" (375 : Nat) ({ cls := "MoonlitFloor", name := "restoreState", desc := "(I)I" } : Jvm.MethodName) ∈ sg_T := sg_in5 186 rfl rfl
theorem kt_5_187 : Jvm.Cond.instanceMethod ({ cls := "MoonlitFloor", name := "restoreState", desc := "(I)I" } : Jvm.MethodName) ∈ sg_T := sg_in5 187 rfl rfl
theorem kt_5_188 : Jvm.Cond.selects "MoonlitFloor" ({ cls := "MoonlitFloor", name := "restoreState", desc := "(I)I" } : Jvm.MethodName) ({ cls := "MoonlitFloor", name := "restoreState", desc := "(I)I" } : Jvm.MethodName) ∈ sg_T := sg_in5 188 rfl rfl
theorem kt_5_189 : Jvm.Cond.code ({ cls := "MoonlitFloor", name := "restoreState", desc := "(I)I" } : Jvm.MethodName) prog_1_method_67_code (2 : Nat) (Option.some Jvm.ClassFile.FieldType.int) ∈ sg_T := sg_in5 189 rfl rfl
theorem kt_5_190 : Jvm.Cond.methodLink "MoonlitFloor" (304 : Nat) ({ cls := "MoonlitFloor$History", name := "fetch", desc := "(ILMoonlitFloor$World;)Z" } : Jvm.MethodName) ∈ sg_T := sg_in5 190 rfl rfl
theorem kt_5_191 : Jvm.Cond.instanceMethod ({ cls := "MoonlitFloor$History", name := "fetch", desc := "(ILMoonlitFloor$World;)Z" } : Jvm.MethodName) ∈ sg_T := sg_in5 191 rfl rfl
theorem kt_5_192 : Jvm.Cond.selects "MoonlitFloor$History" ({ cls := "MoonlitFloor$History", name := "fetch", desc := "(ILMoonlitFloor$World;)Z" } : Jvm.MethodName) ({ cls := "MoonlitFloor$History", name := "fetch", desc := "(ILMoonlitFloor$World;)Z" } : Jvm.MethodName) ∈ sg_T := sg_in5 192 rfl rfl
theorem kt_5_193 : Jvm.Cond.code ({ cls := "MoonlitFloor$History", name := "fetch", desc := "(ILMoonlitFloor$World;)Z" } : Jvm.MethodName) prog_3_method_5_code (4 : Nat) (Option.some Jvm.ClassFile.FieldType.boolean) ∈ sg_T := sg_in5 193 rfl rfl
theorem kt_5_196 : Jvm.Cond.methodLink "MoonlitFloor" (310 : Nat) ({ cls := "MoonlitFloor$History", name := "forgetChanges", desc := "()V" } : Jvm.MethodName) ∈ sg_T := sg_in5 196 rfl rfl
theorem kt_5_197 : Jvm.Cond.methodLink "MoonlitFloorLaw" (75 : Nat) ({ cls := "MoonlitFloorLaw$Floor", name := "tiles", desc := "()I" } : Jvm.MethodName) ∈ sg_T := sg_in5 197 rfl rfl
theorem kt_5_198 : Jvm.Cond.instanceMethod ({ cls := "MoonlitFloorLaw$Floor", name := "tiles", desc := "()I" } : Jvm.MethodName) ∈ sg_T := sg_in5 198 rfl rfl
theorem kt_5_199 : Jvm.Cond.selects "MoonlitFloorLaw$Floor" ({ cls := "MoonlitFloorLaw$Floor", name := "tiles", desc := "()I" } : Jvm.MethodName) ({ cls := "MoonlitFloorLaw$Floor", name := "tiles", desc := "()I" } : Jvm.MethodName) ∈ sg_T := sg_in5 199 rfl rfl
theorem kt_5_200 : Jvm.Cond.code ({ cls := "MoonlitFloorLaw$Floor", name := "tiles", desc := "()I" } : Jvm.MethodName) prog_12_method_3_code (1 : Nat) (Option.some Jvm.ClassFile.FieldType.int) ∈ sg_T := sg_in5 200 rfl rfl
theorem kt_5_201 : Jvm.Cond.methodLink "MoonlitFloorLaw" (28 : Nat) ({ cls := "MoonlitFloorLaw", name := "cell", desc := "([II)I" } : Jvm.MethodName) ∈ sg_T := sg_in5 201 rfl rfl
theorem kt_5_202 : Jvm.Cond.static ({ cls := "MoonlitFloorLaw", name := "cell", desc := "([II)I" } : Jvm.MethodName) ∈ sg_T := sg_in5 202 rfl rfl
theorem kt_5_203 : Jvm.Cond.code ({ cls := "MoonlitFloorLaw", name := "cell", desc := "([II)I" } : Jvm.MethodName) method_7_code (2 : Nat) (Option.some Jvm.ClassFile.FieldType.int) ∈ sg_T := sg_in5 203 rfl rfl
theorem kt_5_204 : Jvm.Cond.methodLink "MoonlitFloorLaw" (301 : Nat) ({ cls := "MoonlitFloorLaw", name := "floor", desc := "([I)LMoonlitFloorLaw$Floor;" } : Jvm.MethodName) ∈ sg_T := sg_in5 204 rfl rfl
theorem kt_5_205 : Jvm.Cond.static ({ cls := "MoonlitFloorLaw", name := "floor", desc := "([I)LMoonlitFloorLaw$Floor;" } : Jvm.MethodName) ∈ sg_T := sg_in5 205 rfl rfl
theorem kt_5_206 : Jvm.Cond.code ({ cls := "MoonlitFloorLaw", name := "floor", desc := "([I)LMoonlitFloorLaw$Floor;" } : Jvm.MethodName) method_8_code (6 : Nat) (Option.some (Jvm.ClassFile.FieldType.object "MoonlitFloorLaw$Floor")) ∈ sg_T := sg_in5 206 rfl rfl
theorem kt_5_207 : Jvm.Cond.classLink "MoonlitFloorLaw" (25 : Nat) "MoonlitFloorLaw$Floor" ∈ sg_T := sg_in5 207 rfl rfl
theorem kt_5_208 : Jvm.Cond.instantiable "MoonlitFloorLaw$Floor" (31 : Nat) ∈ sg_T := sg_in5 208 rfl rfl
theorem kt_5_210 : Jvm.Cond.instanceMethod ({ cls := "MoonlitFloorLaw$Floor", name := "<init>", desc := "()V" } : Jvm.MethodName) ∈ sg_T := sg_in5 210 rfl rfl
theorem kt_5_211 : Jvm.Cond.code ({ cls := "MoonlitFloorLaw$Floor", name := "<init>", desc := "()V" } : Jvm.MethodName) prog_12_method_1_code (1 : Nat) (Option.none : Option Jvm.ClassFile.FieldType) ∈ sg_T := sg_in5 211 rfl rfl
theorem kt_5_212 : Jvm.Cond.methodLink "MoonlitFloorLaw$Floor" (1 : Nat) ({ cls := "java/lang/Object", name := "<init>", desc := "()V" } : Jvm.MethodName) ∈ sg_T := sg_in5 212 rfl rfl
theorem kt_5_213 : Jvm.Cond.classLink "MoonlitFloorLaw$Floor" (20 : Nat) "java/util/ArrayList" ∈ sg_T := sg_in5 213 rfl rfl
theorem kt_5_214 : Jvm.Cond.instantiable "java/util/ArrayList" (3 : Nat) ∈ sg_T := sg_in5 214 rfl rfl
theorem kt_5_215 : Jvm.Cond.methodLink "MoonlitFloorLaw$Floor" (22 : Nat) ({ cls := "java/util/ArrayList", name := "<init>", desc := "()V" } : Jvm.MethodName) ∈ sg_T := sg_in5 215 rfl rfl
theorem kt_5_216 : Jvm.Cond.instanceMethod ({ cls := "java/util/ArrayList", name := "<init>", desc := "()V" } : Jvm.MethodName) ∈ sg_T := sg_in5 216 rfl rfl
theorem kt_5_217 : Jvm.Cond.code ({ cls := "java/util/ArrayList", name := "<init>", desc := "()V" } : Jvm.MethodName) prog_41_method_2_code (1 : Nat) (Option.none : Option Jvm.ClassFile.FieldType) ∈ sg_T := sg_in5 217 rfl rfl
theorem kt_5_218 : Jvm.Cond.methodLink "java/util/ArrayList" (1 : Nat) ({ cls := "java/util/AbstractList", name := "<init>", desc := "()V" } : Jvm.MethodName) ∈ sg_T := sg_in5 218 rfl rfl
theorem kt_5_219 : Jvm.Cond.instanceMethod ({ cls := "java/util/AbstractList", name := "<init>", desc := "()V" } : Jvm.MethodName) ∈ sg_T := sg_in5 219 rfl rfl
theorem kt_5_220 : Jvm.Cond.code ({ cls := "java/util/AbstractList", name := "<init>", desc := "()V" } : Jvm.MethodName) prog_40_method_1_code (1 : Nat) (Option.none : Option Jvm.ClassFile.FieldType) ∈ sg_T := sg_in5 220 rfl rfl
theorem kt_5_221 : Jvm.Cond.methodLink "java/util/AbstractList" (1 : Nat) ({ cls := "java/util/AbstractCollection", name := "<init>", desc := "()V" } : Jvm.MethodName) ∈ sg_T := sg_in5 221 rfl rfl
theorem kt_5_222 : Jvm.Cond.instanceMethod ({ cls := "java/util/AbstractCollection", name := "<init>", desc := "()V" } : Jvm.MethodName) ∈ sg_T := sg_in5 222 rfl rfl
theorem kt_5_223 : Jvm.Cond.code ({ cls := "java/util/AbstractCollection", name := "<init>", desc := "()V" } : Jvm.MethodName) prog_39_method_1_code (1 : Nat) (Option.none : Option Jvm.ClassFile.FieldType) ∈ sg_T := sg_in5 223 rfl rfl
theorem kt_5_224 : Jvm.Cond.methodLink "java/util/AbstractCollection" (1 : Nat) ({ cls := "java/lang/Object", name := "<init>", desc := "()V" } : Jvm.MethodName) ∈ sg_T := sg_in5 224 rfl rfl
theorem kt_5_225 : Jvm.Cond.fieldLink "java/util/ArrayList" (39 : Nat) "java/util/ArrayList" "DEFAULTCAPACITY_EMPTY_ELEMENTDATA" "[Ljava/lang/Object;" ∈ sg_T := sg_in5 225 rfl rfl
theorem kt_5_227 : Jvm.Cond.fieldLink "java/util/ArrayList" (9 : Nat) "java/util/ArrayList" "elementData" "[Ljava/lang/Object;" ∈ sg_T := sg_in5 227 rfl rfl
theorem kt_5_228 : Jvm.Cond.fieldLink "java/util/ArrayList" (48 : Nat) "java/util/ArrayList" "size" "I" ∈ sg_T := sg_in5 228 rfl rfl
theorem kt_5_229 : Jvm.Cond.fieldLink "java/util/AbstractList" (7 : Nat) "java/util/AbstractList" "modCount" "I" ∈ sg_T := sg_in5 229 rfl rfl
theorem kt_5_230 : Jvm.Cond.fieldLink "java/util/ArrayList" (63 : Nat) "java/util/ArrayList" "modCount" "I" ∈ sg_T := sg_in5 230 rfl rfl
theorem kt_5_232 : Jvm.Cond.lays "java/util/ArrayList" "java/util/ArrayList" "elementData" "[Ljava/lang/Object;" ∈ sg_T := sg_in5 232 rfl rfl
theorem kt_5_233 : Jvm.Cond.soleField "java/util/ArrayList" "elementData" ∈ sg_T := sg_in5 233 rfl rfl
theorem kt_5_234 : Jvm.Cond.lays "java/util/ArrayList" "java/util/ArrayList" "size" "I" ∈ sg_T := sg_in5 234 rfl rfl
theorem kt_5_235 : Jvm.Cond.soleField "java/util/ArrayList" "size" ∈ sg_T := sg_in5 235 rfl rfl
theorem kt_5_236 : Jvm.Cond.lays "java/util/ArrayList" "java/util/AbstractList" "modCount" "I" ∈ sg_T := sg_in5 236 rfl rfl
theorem kt_5_237 : Jvm.Cond.soleField "java/util/AbstractList" "modCount" ∈ sg_T := sg_in5 237 rfl rfl
theorem kt_5_238 : Jvm.Cond.superclass "java/util/ArrayList" "java/util/AbstractList" ∈ sg_T := sg_in5 238 rfl rfl
theorem kt_5_239 : Jvm.Cond.fieldLink "MoonlitFloorLaw$Floor" (31 : Nat) "MoonlitFloorLaw$Floor" "rows" "I" ∈ sg_T := sg_in5 239 rfl rfl
theorem kt_6_1 : Jvm.Cond.fieldLink "MoonlitFloorLaw$Floor" (34 : Nat) "MoonlitFloorLaw$Floor" "columns" "I" ∈ sg_T := sg_in6 1 rfl rfl
theorem kt_6_3 : Jvm.Cond.fieldLink "MoonlitFloorLaw$Floor" (37 : Nat) "MoonlitFloorLaw$Floor" "light" "I" ∈ sg_T := sg_in6 3 rfl rfl
theorem kt_6_5 : Jvm.Cond.fieldLink "MoonlitFloorLaw$Floor" (40 : Nat) "MoonlitFloorLaw$Floor" "pace" "I" ∈ sg_T := sg_in6 5 rfl rfl
theorem kt_6_8 : Jvm.Cond.fieldLink "MoonlitFloorLaw$Floor" (43 : Nat) "MoonlitFloorLaw$Floor" "drying" "I" ∈ sg_T := sg_in6 8 rfl rfl
theorem kt_6_10 : Jvm.Cond.fieldLink "MoonlitFloorLaw$Floor" (46 : Nat) "MoonlitFloorLaw$Floor" "rest" "I" ∈ sg_T := sg_in6 10 rfl rfl
theorem kt_6_12 : Jvm.Cond.fieldLink "MoonlitFloorLaw$Floor" (49 : Nat) "MoonlitFloorLaw$Floor" "stamina" "I" ∈ sg_T := sg_in6 12 rfl rfl
theorem kt_6_14 : Jvm.Cond.fieldLink "MoonlitFloorLaw$Floor" (52 : Nat) "MoonlitFloorLaw$Floor" "noise" "I" ∈ sg_T := sg_in6 14 rfl rfl
theorem kt_6_15 : Jvm.Cond.fieldLink "MoonlitFloorLaw$Floor" (55 : Nat) "MoonlitFloorLaw$Floor" "night" "I" ∈ sg_T := sg_in6 15 rfl rfl
theorem kt_6_17 : Jvm.Cond.fieldLink "MoonlitFloorLaw$Floor" (58 : Nat) "MoonlitFloorLaw$Floor" "minute" "I" ∈ sg_T := sg_in6 17 rfl rfl
theorem kt_6_18 : Jvm.Cond.fieldLink "MoonlitFloorLaw$Floor" (7 : Nat) "MoonlitFloorLaw$Floor" "walker" "I" ∈ sg_T := sg_in6 18 rfl rfl
theorem kt_6_20 : Jvm.Cond.fieldLink "MoonlitFloorLaw$Floor" (61 : Nat) "MoonlitFloorLaw$Floor" "column" "I" ∈ sg_T := sg_in6 20 rfl rfl
theorem kt_6_21 : Jvm.Cond.fieldLink "MoonlitFloorLaw$Floor" (64 : Nat) "MoonlitFloorLaw$Floor" "resting" "I" ∈ sg_T := sg_in6 21 rfl rfl
theorem kt_6_22 : Jvm.Cond.fieldLink "MoonlitFloorLaw$Floor" (67 : Nat) "MoonlitFloorLaw$Floor" "since" "I" ∈ sg_T := sg_in6 22 rfl rfl
theorem kt_6_23 : Jvm.Cond.fieldLink "MoonlitFloorLaw$Floor" (70 : Nat) "MoonlitFloorLaw$Floor" "total" "I" ∈ sg_T := sg_in6 23 rfl rfl
theorem kt_6_24 : Jvm.Cond.fieldLink "MoonlitFloorLaw$Floor" (73 : Nat) "MoonlitFloorLaw$Floor" "tonight" "I" ∈ sg_T := sg_in6 24 rfl rfl
theorem kt_6_25 : Jvm.Cond.fieldLink "MoonlitFloorLaw$Floor" (76 : Nat) "MoonlitFloorLaw$Floor" "turns" "I" ∈ sg_T := sg_in6 25 rfl rfl
theorem kt_6_26 : Jvm.Cond.fieldLink "MoonlitFloorLaw$Floor" (79 : Nat) "MoonlitFloorLaw$Floor" "falls" "I" ∈ sg_T := sg_in6 26 rfl rfl
theorem kt_6_27 : Jvm.Cond.fieldLink "MoonlitFloorLaw$Floor" (82 : Nat) "MoonlitFloorLaw$Floor" "slides" "I" ∈ sg_T := sg_in6 27 rfl rfl
theorem kt_6_28 : Jvm.Cond.fieldLink "MoonlitFloorLaw$Floor" (13 : Nat) "MoonlitFloorLaw$Floor" "cat" "I" ∈ sg_T := sg_in6 28 rfl rfl
theorem kt_6_30 : Jvm.Cond.fieldLink "MoonlitFloorLaw$Floor" (85 : Nat) "MoonlitFloorLaw$Floor" "next" "I" ∈ sg_T := sg_in6 30 rfl rfl
theorem kt_6_32 : Jvm.Cond.fieldLink "MoonlitFloorLaw$Floor" (88 : Nat) "MoonlitFloorLaw$Floor" "right" "Z" ∈ sg_T := sg_in6 32 rfl rfl
theorem kt_6_33 : Jvm.Cond.fieldLink "MoonlitFloorLaw$Floor" (16 : Nat) "MoonlitFloorLaw$Floor" "route" "[I" ∈ sg_T := sg_in6 33 rfl rfl
theorem kt_6_35 : Jvm.Cond.fieldLink "MoonlitFloorLaw$Floor" (92 : Nat) "MoonlitFloorLaw$Floor" "closed" "[Z" ∈ sg_T := sg_in6 35 rfl rfl
theorem kt_6_38 : Jvm.Cond.fieldLink "MoonlitFloorLaw$Floor" (101 : Nat) "MoonlitFloorLaw$Floor" "bowls" "[Z" ∈ sg_T := sg_in6 38 rfl rfl
theorem kt_6_40 : Jvm.Cond.fieldLink "MoonlitFloorLaw$Floor" (104 : Nat) "MoonlitFloorLaw$Floor" "rugs" "[Z" ∈ sg_T := sg_in6 40 rfl rfl
theorem kt_6_42 : Jvm.Cond.fieldLink "MoonlitFloorLaw$Floor" (107 : Nat) "MoonlitFloorLaw$Floor" "draughts" "[I" ∈ sg_T := sg_in6 42 rfl rfl
theorem kt_6_44 : Jvm.Cond.fieldLink "MoonlitFloorLaw$Floor" (110 : Nat) "MoonlitFloorLaw$Floor" "spills" "[I" ∈ sg_T := sg_in6 44 rfl rfl
theorem kt_6_46 : Jvm.Cond.fieldLink "MoonlitFloorLaw$Floor" (115 : Nat) "MoonlitFloorLaw$Floor" "wear" "[I" ∈ sg_T := sg_in6 46 rfl rfl
theorem kt_6_47 : Jvm.Cond.fieldLink "MoonlitFloorLaw$Floor" (23 : Nat) "MoonlitFloorLaw$Floor" "clouds" "Ljava/util/ArrayList;" ∈ sg_T := sg_in6 47 rfl rfl
theorem kt_6_49 : Jvm.Cond.fieldLink "MoonlitFloorLaw$Floor" (27 : Nat) "MoonlitFloorLaw$Floor" "records" "Ljava/util/ArrayList;" ∈ sg_T := sg_in6 49 rfl rfl
theorem kt_6_50 : Jvm.Cond.lays "MoonlitFloorLaw$Floor" "MoonlitFloorLaw$Floor" "rows" "I" ∈ sg_T := sg_in6 50 rfl rfl
theorem kt_6_51 : Jvm.Cond.soleField "MoonlitFloorLaw$Floor" "rows" ∈ sg_T := sg_in6 51 rfl rfl
theorem kt_6_52 : Jvm.Cond.lays "MoonlitFloorLaw$Floor" "MoonlitFloorLaw$Floor" "columns" "I" ∈ sg_T := sg_in6 52 rfl rfl
theorem kt_6_53 : Jvm.Cond.soleField "MoonlitFloorLaw$Floor" "columns" ∈ sg_T := sg_in6 53 rfl rfl
theorem kt_6_54 : Jvm.Cond.lays "MoonlitFloorLaw$Floor" "MoonlitFloorLaw$Floor" "light" "I" ∈ sg_T := sg_in6 54 rfl rfl
theorem kt_6_55 : Jvm.Cond.soleField "MoonlitFloorLaw$Floor" "light" ∈ sg_T := sg_in6 55 rfl rfl
theorem kt_6_56 : Jvm.Cond.lays "MoonlitFloorLaw$Floor" "MoonlitFloorLaw$Floor" "pace" "I" ∈ sg_T := sg_in6 56 rfl rfl
theorem kt_6_57 : Jvm.Cond.soleField "MoonlitFloorLaw$Floor" "pace" ∈ sg_T := sg_in6 57 rfl rfl
theorem kt_6_58 : Jvm.Cond.lays "MoonlitFloorLaw$Floor" "MoonlitFloorLaw$Floor" "drying" "I" ∈ sg_T := sg_in6 58 rfl rfl
theorem kt_6_59 : Jvm.Cond.soleField "MoonlitFloorLaw$Floor" "drying" ∈ sg_T := sg_in6 59 rfl rfl
theorem kt_6_60 : Jvm.Cond.lays "MoonlitFloorLaw$Floor" "MoonlitFloorLaw$Floor" "rest" "I" ∈ sg_T := sg_in6 60 rfl rfl
theorem kt_6_61 : Jvm.Cond.soleField "MoonlitFloorLaw$Floor" "rest" ∈ sg_T := sg_in6 61 rfl rfl
theorem kt_6_62 : Jvm.Cond.lays "MoonlitFloorLaw$Floor" "MoonlitFloorLaw$Floor" "stamina" "I" ∈ sg_T := sg_in6 62 rfl rfl
theorem kt_6_63 : Jvm.Cond.soleField "MoonlitFloorLaw$Floor" "stamina" ∈ sg_T := sg_in6 63 rfl rfl
theorem kt_6_64 : Jvm.Cond.lays "MoonlitFloorLaw$Floor" "MoonlitFloorLaw$Floor" "noise" "I" ∈ sg_T := sg_in6 64 rfl rfl
theorem kt_6_65 : Jvm.Cond.soleField "MoonlitFloorLaw$Floor" "noise" ∈ sg_T := sg_in6 65 rfl rfl
theorem kt_6_66 : Jvm.Cond.lays "MoonlitFloorLaw$Floor" "MoonlitFloorLaw$Floor" "night" "I" ∈ sg_T := sg_in6 66 rfl rfl
theorem kt_6_67 : Jvm.Cond.soleField "MoonlitFloorLaw$Floor" "night" ∈ sg_T := sg_in6 67 rfl rfl
theorem kt_6_68 : Jvm.Cond.lays "MoonlitFloorLaw$Floor" "MoonlitFloorLaw$Floor" "minute" "I" ∈ sg_T := sg_in6 68 rfl rfl
theorem kt_6_69 : Jvm.Cond.soleField "MoonlitFloorLaw$Floor" "minute" ∈ sg_T := sg_in6 69 rfl rfl
theorem kt_6_70 : Jvm.Cond.lays "MoonlitFloorLaw$Floor" "MoonlitFloorLaw$Floor" "walker" "I" ∈ sg_T := sg_in6 70 rfl rfl
theorem kt_6_71 : Jvm.Cond.soleField "MoonlitFloorLaw$Floor" "walker" ∈ sg_T := sg_in6 71 rfl rfl
theorem kt_6_72 : Jvm.Cond.lays "MoonlitFloorLaw$Floor" "MoonlitFloorLaw$Floor" "column" "I" ∈ sg_T := sg_in6 72 rfl rfl
theorem kt_6_73 : Jvm.Cond.soleField "MoonlitFloorLaw$Floor" "column" ∈ sg_T := sg_in6 73 rfl rfl
theorem kt_6_74 : Jvm.Cond.lays "MoonlitFloorLaw$Floor" "MoonlitFloorLaw$Floor" "resting" "I" ∈ sg_T := sg_in6 74 rfl rfl
theorem kt_6_75 : Jvm.Cond.soleField "MoonlitFloorLaw$Floor" "resting" ∈ sg_T := sg_in6 75 rfl rfl
theorem kt_6_76 : Jvm.Cond.lays "MoonlitFloorLaw$Floor" "MoonlitFloorLaw$Floor" "since" "I" ∈ sg_T := sg_in6 76 rfl rfl
theorem kt_6_77 : Jvm.Cond.soleField "MoonlitFloorLaw$Floor" "since" ∈ sg_T := sg_in6 77 rfl rfl
theorem kt_6_78 : Jvm.Cond.lays "MoonlitFloorLaw$Floor" "MoonlitFloorLaw$Floor" "total" "I" ∈ sg_T := sg_in6 78 rfl rfl
theorem kt_6_79 : Jvm.Cond.soleField "MoonlitFloorLaw$Floor" "total" ∈ sg_T := sg_in6 79 rfl rfl
theorem kt_6_80 : Jvm.Cond.lays "MoonlitFloorLaw$Floor" "MoonlitFloorLaw$Floor" "tonight" "I" ∈ sg_T := sg_in6 80 rfl rfl
theorem kt_6_81 : Jvm.Cond.soleField "MoonlitFloorLaw$Floor" "tonight" ∈ sg_T := sg_in6 81 rfl rfl
theorem kt_6_82 : Jvm.Cond.lays "MoonlitFloorLaw$Floor" "MoonlitFloorLaw$Floor" "turns" "I" ∈ sg_T := sg_in6 82 rfl rfl
theorem kt_6_83 : Jvm.Cond.soleField "MoonlitFloorLaw$Floor" "turns" ∈ sg_T := sg_in6 83 rfl rfl
theorem kt_6_84 : Jvm.Cond.lays "MoonlitFloorLaw$Floor" "MoonlitFloorLaw$Floor" "falls" "I" ∈ sg_T := sg_in6 84 rfl rfl
theorem kt_6_85 : Jvm.Cond.soleField "MoonlitFloorLaw$Floor" "falls" ∈ sg_T := sg_in6 85 rfl rfl
theorem kt_6_86 : Jvm.Cond.lays "MoonlitFloorLaw$Floor" "MoonlitFloorLaw$Floor" "slides" "I" ∈ sg_T := sg_in6 86 rfl rfl
theorem kt_6_87 : Jvm.Cond.soleField "MoonlitFloorLaw$Floor" "slides" ∈ sg_T := sg_in6 87 rfl rfl
theorem kt_6_88 : Jvm.Cond.lays "MoonlitFloorLaw$Floor" "MoonlitFloorLaw$Floor" "cat" "I" ∈ sg_T := sg_in6 88 rfl rfl
theorem kt_6_89 : Jvm.Cond.soleField "MoonlitFloorLaw$Floor" "cat" ∈ sg_T := sg_in6 89 rfl rfl
theorem kt_6_90 : Jvm.Cond.lays "MoonlitFloorLaw$Floor" "MoonlitFloorLaw$Floor" "next" "I" ∈ sg_T := sg_in6 90 rfl rfl
theorem kt_6_91 : Jvm.Cond.soleField "MoonlitFloorLaw$Floor" "next" ∈ sg_T := sg_in6 91 rfl rfl
theorem kt_6_92 : Jvm.Cond.lays "MoonlitFloorLaw$Floor" "MoonlitFloorLaw$Floor" "right" "Z" ∈ sg_T := sg_in6 92 rfl rfl
theorem kt_6_93 : Jvm.Cond.soleField "MoonlitFloorLaw$Floor" "right" ∈ sg_T := sg_in6 93 rfl rfl
theorem kt_6_94 : Jvm.Cond.lays "MoonlitFloorLaw$Floor" "MoonlitFloorLaw$Floor" "route" "[I" ∈ sg_T := sg_in6 94 rfl rfl
theorem kt_6_95 : Jvm.Cond.soleField "MoonlitFloorLaw$Floor" "route" ∈ sg_T := sg_in6 95 rfl rfl
theorem kt_6_96 : Jvm.Cond.lays "MoonlitFloorLaw$Floor" "MoonlitFloorLaw$Floor" "closed" "[Z" ∈ sg_T := sg_in6 96 rfl rfl
theorem kt_6_97 : Jvm.Cond.soleField "MoonlitFloorLaw$Floor" "closed" ∈ sg_T := sg_in6 97 rfl rfl
theorem kt_6_98 : Jvm.Cond.lays "MoonlitFloorLaw$Floor" "MoonlitFloorLaw$Floor" "bowls" "[Z" ∈ sg_T := sg_in6 98 rfl rfl
theorem kt_6_99 : Jvm.Cond.soleField "MoonlitFloorLaw$Floor" "bowls" ∈ sg_T := sg_in6 99 rfl rfl
theorem kt_6_100 : Jvm.Cond.lays "MoonlitFloorLaw$Floor" "MoonlitFloorLaw$Floor" "rugs" "[Z" ∈ sg_T := sg_in6 100 rfl rfl
theorem kt_6_101 : Jvm.Cond.soleField "MoonlitFloorLaw$Floor" "rugs" ∈ sg_T := sg_in6 101 rfl rfl
theorem kt_6_102 : Jvm.Cond.lays "MoonlitFloorLaw$Floor" "MoonlitFloorLaw$Floor" "draughts" "[I" ∈ sg_T := sg_in6 102 rfl rfl
theorem kt_6_103 : Jvm.Cond.soleField "MoonlitFloorLaw$Floor" "draughts" ∈ sg_T := sg_in6 103 rfl rfl
theorem kt_6_104 : Jvm.Cond.lays "MoonlitFloorLaw$Floor" "MoonlitFloorLaw$Floor" "spills" "[I" ∈ sg_T := sg_in6 104 rfl rfl
theorem kt_6_105 : Jvm.Cond.soleField "MoonlitFloorLaw$Floor" "spills" ∈ sg_T := sg_in6 105 rfl rfl
theorem kt_6_106 : Jvm.Cond.lays "MoonlitFloorLaw$Floor" "MoonlitFloorLaw$Floor" "wear" "[I" ∈ sg_T := sg_in6 106 rfl rfl
theorem kt_6_107 : Jvm.Cond.soleField "MoonlitFloorLaw$Floor" "wear" ∈ sg_T := sg_in6 107 rfl rfl
theorem kt_6_108 : Jvm.Cond.laysFinal "MoonlitFloorLaw$Floor" "MoonlitFloorLaw$Floor" "clouds" "Ljava/util/ArrayList;" ∈ sg_T := sg_in6 108 rfl rfl
theorem kt_6_109 : Jvm.Cond.soleField "MoonlitFloorLaw$Floor" "clouds" ∈ sg_T := sg_in6 109 rfl rfl
theorem kt_6_110 : Jvm.Cond.laysFinal "MoonlitFloorLaw$Floor" "MoonlitFloorLaw$Floor" "records" "Ljava/util/ArrayList;" ∈ sg_T := sg_in6 110 rfl rfl
theorem kt_6_111 : Jvm.Cond.soleField "MoonlitFloorLaw$Floor" "records" ∈ sg_T := sg_in6 111 rfl rfl
theorem kt_6_112 : Jvm.Cond.superclass "MoonlitFloorLaw$Floor" "java/lang/Object" ∈ sg_T := sg_in6 112 rfl rfl
theorem kt_6_113 : Jvm.Cond.methodLink "MoonlitFloorLaw" (95 : Nat) ({ cls := "java/util/ArrayList", name := "add", desc := "(Ljava/lang/Object;)Z" } : Jvm.MethodName) ∈ sg_T := sg_in6 113 rfl rfl
theorem kt_6_114 : Jvm.Cond.instanceMethod ({ cls := "java/util/ArrayList", name := "add", desc := "(Ljava/lang/Object;)Z" } : Jvm.MethodName) ∈ sg_T := sg_in6 114 rfl rfl
theorem kt_6_115 : Jvm.Cond.selects "java/util/ArrayList" ({ cls := "java/util/ArrayList", name := "add", desc := "(Ljava/lang/Object;)Z" } : Jvm.MethodName) ({ cls := "java/util/ArrayList", name := "add", desc := "(Ljava/lang/Object;)Z" } : Jvm.MethodName) ∈ sg_T := sg_in6 115 rfl rfl
theorem kt_6_116 : Jvm.Cond.code ({ cls := "java/util/ArrayList", name := "add", desc := "(Ljava/lang/Object;)Z" } : Jvm.MethodName) prog_41_method_25_code (2 : Nat) (Option.some Jvm.ClassFile.FieldType.boolean) ∈ sg_T := sg_in6 116 rfl rfl
theorem kt_6_117 : Jvm.Cond.methodLink "java/util/ArrayList" (131 : Nat) ({ cls := "java/util/ArrayList", name := "add", desc := "(Ljava/lang/Object;[Ljava/lang/Object;I)V" } : Jvm.MethodName) ∈ sg_T := sg_in6 117 rfl rfl
theorem kt_6_119 : Jvm.Cond.instanceMethod ({ cls := "java/util/ArrayList", name := "add", desc := "(Ljava/lang/Object;[Ljava/lang/Object;I)V" } : Jvm.MethodName) ∈ sg_T := sg_in6 119 rfl rfl
theorem kt_6_120 : Jvm.Cond.code ({ cls := "java/util/ArrayList", name := "add", desc := "(Ljava/lang/Object;[Ljava/lang/Object;I)V" } : Jvm.MethodName) prog_41_method_24_code (4 : Nat) (Option.none : Option Jvm.ClassFile.FieldType) ∈ sg_T := sg_in6 120 rfl rfl
theorem kt_6_121 : Jvm.Cond.methodLink "java/util/ArrayList" (129 : Nat) ({ cls := "java/util/ArrayList", name := "grow", desc := "()[Ljava/lang/Object;" } : Jvm.MethodName) ∈ sg_T := sg_in6 121 rfl rfl
theorem kt_6_123 : Jvm.Cond.instanceMethod ({ cls := "java/util/ArrayList", name := "grow", desc := "()[Ljava/lang/Object;" } : Jvm.MethodName) ∈ sg_T := sg_in6 123 rfl rfl
theorem kt_6_124 : Jvm.Cond.code ({ cls := "java/util/ArrayList", name := "grow", desc := "()[Ljava/lang/Object;" } : Jvm.MethodName) prog_41_method_7_code (1 : Nat) (Option.some (Jvm.ClassFile.FieldType.array (Jvm.ClassFile.FieldType.object "java/lang/Object"))) ∈ sg_T := sg_in6 124 rfl rfl
theorem kt_6_125 : Jvm.Cond.methodLink "java/util/ArrayList" (69 : Nat) ({ cls := "java/util/ArrayList", name := "grow", desc := "(I)[Ljava/lang/Object;" } : Jvm.MethodName) ∈ sg_T := sg_in6 125 rfl rfl
theorem kt_6_127 : Jvm.Cond.instanceMethod ({ cls := "java/util/ArrayList", name := "grow", desc := "(I)[Ljava/lang/Object;" } : Jvm.MethodName) ∈ sg_T := sg_in6 127 rfl rfl
theorem kt_6_128 : Jvm.Cond.code ({ cls := "java/util/ArrayList", name := "grow", desc := "(I)[Ljava/lang/Object;" } : Jvm.MethodName) prog_41_method_6_code (4 : Nat) (Option.some (Jvm.ClassFile.FieldType.array (Jvm.ClassFile.FieldType.object "java/lang/Object"))) ∈ sg_T := sg_in6 128 rfl rfl
theorem kt_6_129 : Jvm.Cond.methodLink "java/util/ArrayList" (73 : Nat) ({ cls := "jdk/internal/util/ArraysSupport", name := "newLength", desc := "(III)I" } : Jvm.MethodName) ∈ sg_T := sg_in6 129 rfl rfl
theorem kt_6_130 : Jvm.Cond.static ({ cls := "jdk/internal/util/ArraysSupport", name := "newLength", desc := "(III)I" } : Jvm.MethodName) ∈ sg_T := sg_in6 130 rfl rfl
theorem kt_6_131 : Jvm.Cond.code ({ cls := "jdk/internal/util/ArraysSupport", name := "newLength", desc := "(III)I" } : Jvm.MethodName) prog_50_method_27_code (4 : Nat) (Option.some Jvm.ClassFile.FieldType.int) ∈ sg_T := sg_in6 131 rfl rfl
theorem kt_6_132 : Jvm.Cond.methodLink "jdk/internal/util/ArraysSupport" (194 : Nat) ({ cls := "java/lang/Math", name := "max", desc := "(II)I" } : Jvm.MethodName) ∈ sg_T := sg_in6 132 rfl rfl
theorem kt_6_133 : Jvm.Cond.constant "jdk/internal/util/ArraysSupport" (200 : Nat) (2147483639 : Int32) ∈ sg_T := sg_in6 133 rfl rfl
theorem kt_6_134 : Jvm.Cond.methodLink "jdk/internal/util/ArraysSupport" (201 : Nat) ({ cls := "jdk/internal/util/ArraysSupport", name := "hugeLength", desc := "(II)I" } : Jvm.MethodName) ∈ sg_T := sg_in6 134 rfl rfl
theorem kt_6_135 : Jvm.Cond.static ({ cls := "jdk/internal/util/ArraysSupport", name := "hugeLength", desc := "(II)I" } : Jvm.MethodName) ∈ sg_T := sg_in6 135 rfl rfl
theorem kt_6_136 : Jvm.Cond.code ({ cls := "jdk/internal/util/ArraysSupport", name := "hugeLength", desc := "(II)I" } : Jvm.MethodName) prog_50_method_28_code (3 : Nat) (Option.some Jvm.ClassFile.FieldType.int) ∈ sg_T := sg_in6 136 rfl rfl
theorem kt_6_137 : Jvm.Cond.methodLink "java/util/ArrayList" (66 : Nat) ({ cls := "java/util/Arrays", name := "copyOf", desc := "([Ljava/lang/Object;I)[Ljava/lang/Object;" } : Jvm.MethodName) ∈ sg_T := sg_in6 137 rfl rfl
theorem kt_6_138 : Jvm.Cond.static ({ cls := "java/util/Arrays", name := "copyOf", desc := "([Ljava/lang/Object;I)[Ljava/lang/Object;" } : Jvm.MethodName) ∈ sg_T := sg_in6 138 rfl rfl
theorem kt_6_139 : Jvm.Cond.code ({ cls := "java/util/Arrays", name := "copyOf", desc := "([Ljava/lang/Object;I)[Ljava/lang/Object;" } : Jvm.MethodName) prog_42_method_119_code (2 : Nat) (Option.some (Jvm.ClassFile.FieldType.array (Jvm.ClassFile.FieldType.object "java/lang/Object"))) ∈ sg_T := sg_in6 139 rfl rfl
theorem kt_6_140 : Jvm.Cond.methodLink "java/util/Arrays" (86 : Nat) ({ cls := "java/lang/Object", name := "getClass", desc := "()Ljava/lang/Class;" } : Jvm.MethodName) ∈ sg_T := sg_in6 140 rfl rfl
theorem kt_6_141 : Jvm.Cond.instanceMethod ({ cls := "java/lang/Object", name := "getClass", desc := "()Ljava/lang/Class;" } : Jvm.MethodName) ∈ sg_T := sg_in6 141 rfl rfl
theorem kt_6_142 : Jvm.Cond.sameMethod "java/lang/Object" "java/lang/Object" "getClass" "()Ljava/lang/Class;" ∈ sg_T := sg_in6 142 rfl rfl
theorem kt_6_143 : Jvm.Cond.selects "MoonlitFloor" ({ cls := "java/lang/Object", name := "getClass", desc := "()Ljava/lang/Class;" } : Jvm.MethodName) ({ cls := "java/lang/Object", name := "getClass", desc := "()Ljava/lang/Class;" } : Jvm.MethodName) ∈ sg_T := sg_in6 143 rfl rfl
theorem kt_6_144 : Jvm.Cond.selects "MoonlitFloor$History" ({ cls := "java/lang/Object", name := "getClass", desc := "()Ljava/lang/Class;" } : Jvm.MethodName) ({ cls := "java/lang/Object", name := "getClass", desc := "()Ljava/lang/Class;" } : Jvm.MethodName) ∈ sg_T := sg_in6 144 rfl rfl
theorem kt_6_145 : Jvm.Cond.selects "MoonlitFloor$Plan" ({ cls := "java/lang/Object", name := "getClass", desc := "()Ljava/lang/Class;" } : Jvm.MethodName) ({ cls := "java/lang/Object", name := "getClass", desc := "()Ljava/lang/Class;" } : Jvm.MethodName) ∈ sg_T := sg_in6 145 rfl rfl
theorem kt_6_146 : Jvm.Cond.selects "MoonlitFloor$Records" ({ cls := "java/lang/Object", name := "getClass", desc := "()Ljava/lang/Class;" } : Jvm.MethodName) ({ cls := "java/lang/Object", name := "getClass", desc := "()Ljava/lang/Class;" } : Jvm.MethodName) ∈ sg_T := sg_in6 146 rfl rfl
theorem kt_6_147 : Jvm.Cond.selects "MoonlitFloor$SetupReader" ({ cls := "java/lang/Object", name := "getClass", desc := "()Ljava/lang/Class;" } : Jvm.MethodName) ({ cls := "java/lang/Object", name := "getClass", desc := "()Ljava/lang/Class;" } : Jvm.MethodName) ∈ sg_T := sg_in6 147 rfl rfl
theorem kt_6_148 : Jvm.Cond.selects "MoonlitFloor$Sign" ({ cls := "java/lang/Object", name := "getClass", desc := "()Ljava/lang/Class;" } : Jvm.MethodName) ({ cls := "java/lang/Object", name := "getClass", desc := "()Ljava/lang/Class;" } : Jvm.MethodName) ∈ sg_T := sg_in6 148 rfl rfl
theorem kt_6_149 : Jvm.Cond.selects "MoonlitFloor$Tokens" ({ cls := "java/lang/Object", name := "getClass", desc := "()Ljava/lang/Class;" } : Jvm.MethodName) ({ cls := "java/lang/Object", name := "getClass", desc := "()Ljava/lang/Class;" } : Jvm.MethodName) ∈ sg_T := sg_in6 149 rfl rfl
theorem kt_6_150 : Jvm.Cond.selects "MoonlitFloor$Walker" ({ cls := "java/lang/Object", name := "getClass", desc := "()Ljava/lang/Class;" } : Jvm.MethodName) ({ cls := "java/lang/Object", name := "getClass", desc := "()Ljava/lang/Class;" } : Jvm.MethodName) ∈ sg_T := sg_in6 150 rfl rfl
theorem kt_6_151 : Jvm.Cond.selects "MoonlitFloor$World" ({ cls := "java/lang/Object", name := "getClass", desc := "()Ljava/lang/Class;" } : Jvm.MethodName) ({ cls := "java/lang/Object", name := "getClass", desc := "()Ljava/lang/Class;" } : Jvm.MethodName) ∈ sg_T := sg_in6 151 rfl rfl
theorem kt_6_152 : Jvm.Cond.selects "MoonlitFloorLaw$Floor" ({ cls := "java/lang/Object", name := "getClass", desc := "()Ljava/lang/Class;" } : Jvm.MethodName) ({ cls := "java/lang/Object", name := "getClass", desc := "()Ljava/lang/Class;" } : Jvm.MethodName) ∈ sg_T := sg_in6 152 rfl rfl
theorem kt_6_153 : Jvm.Cond.selects "java/lang/IllegalArgumentException" ({ cls := "java/lang/Object", name := "getClass", desc := "()Ljava/lang/Class;" } : Jvm.MethodName) ({ cls := "java/lang/Object", name := "getClass", desc := "()Ljava/lang/Class;" } : Jvm.MethodName) ∈ sg_T := sg_in6 153 rfl rfl
theorem kt_6_154 : Jvm.Cond.selects "java/lang/IllegalStateException" ({ cls := "java/lang/Object", name := "getClass", desc := "()Ljava/lang/Class;" } : Jvm.MethodName) ({ cls := "java/lang/Object", name := "getClass", desc := "()Ljava/lang/Class;" } : Jvm.MethodName) ∈ sg_T := sg_in6 154 rfl rfl
theorem kt_6_155 : Jvm.Cond.selects "java/lang/IndexOutOfBoundsException" ({ cls := "java/lang/Object", name := "getClass", desc := "()Ljava/lang/Class;" } : Jvm.MethodName) ({ cls := "java/lang/Object", name := "getClass", desc := "()Ljava/lang/Class;" } : Jvm.MethodName) ∈ sg_T := sg_in6 155 rfl rfl
theorem kt_6_156 : Jvm.Cond.selects "java/lang/String" ({ cls := "java/lang/Object", name := "getClass", desc := "()Ljava/lang/Class;" } : Jvm.MethodName) ({ cls := "java/lang/Object", name := "getClass", desc := "()Ljava/lang/Class;" } : Jvm.MethodName) ∈ sg_T := sg_in6 156 rfl rfl
theorem kt_6_157 : Jvm.Cond.selects "java/lang/StringBuilder" ({ cls := "java/lang/Object", name := "getClass", desc := "()Ljava/lang/Class;" } : Jvm.MethodName) ({ cls := "java/lang/Object", name := "getClass", desc := "()Ljava/lang/Class;" } : Jvm.MethodName) ∈ sg_T := sg_in6 157 rfl rfl
theorem kt_6_158 : Jvm.Cond.selects "java/util/ArrayList" ({ cls := "java/lang/Object", name := "getClass", desc := "()Ljava/lang/Class;" } : Jvm.MethodName) ({ cls := "java/lang/Object", name := "getClass", desc := "()Ljava/lang/Class;" } : Jvm.MethodName) ∈ sg_T := sg_in6 158 rfl rfl
theorem kt_6_159 : Jvm.Cond.selects "jdk/internal/misc/Unsafe" ({ cls := "java/lang/Object", name := "getClass", desc := "()Ljava/lang/Class;" } : Jvm.MethodName) ({ cls := "java/lang/Object", name := "getClass", desc := "()Ljava/lang/Class;" } : Jvm.MethodName) ∈ sg_T := sg_in6 159 rfl rfl
theorem kt_6_160 : Jvm.Cond.native ({ cls := "java/lang/Object", name := "getClass", desc := "()Ljava/lang/Class;" } : Jvm.MethodName) ∈ sg_T := sg_in6 160 rfl rfl
theorem kt_6_161 : Jvm.Cond.methodLink "java/util/Arrays" (300 : Nat) ({ cls := "java/util/Arrays", name := "copyOf", desc := "([Ljava/lang/Object;ILjava/lang/Class;)[Ljava/lang/Object;" } : Jvm.MethodName) ∈ sg_T := sg_in6 161 rfl rfl
theorem kt_6_162 : Jvm.Cond.static ({ cls := "java/util/Arrays", name := "copyOf", desc := "([Ljava/lang/Object;ILjava/lang/Class;)[Ljava/lang/Object;" } : Jvm.MethodName) ∈ sg_T := sg_in6 162 rfl rfl
theorem kt_6_163 : Jvm.Cond.code ({ cls := "java/util/Arrays", name := "copyOf", desc := "([Ljava/lang/Object;ILjava/lang/Class;)[Ljava/lang/Object;" } : Jvm.MethodName) prog_42_method_120_code (4 : Nat) (Option.some (Jvm.ClassFile.FieldType.array (Jvm.ClassFile.FieldType.object "java/lang/Object"))) ∈ sg_T := sg_in6 163 rfl rfl
theorem kt_6_164 : Jvm.Cond.classLink "java/util/Arrays" (110 : Nat) "[Ljava/lang/Object;" ∈ sg_T := sg_in6 164 rfl rfl
theorem kt_6_166 : Jvm.Cond.classLink "java/util/Arrays" (2 : Nat) "java/lang/Object" ∈ sg_T := sg_in6 166 rfl rfl
theorem kt_6_167 : Jvm.Cond.methodLink "java/util/Arrays" (304 : Nat) ({ cls := "java/lang/Math", name := "min", desc := "(II)I" } : Jvm.MethodName) ∈ sg_T := sg_in6 167 rfl rfl
theorem kt_6_168 : Jvm.Cond.methodLink "java/util/Arrays" (150 : Nat) ({ cls := "java/lang/System", name := "arraycopy", desc := "(Ljava/lang/Object;ILjava/lang/Object;II)V" } : Jvm.MethodName) ∈ sg_T := sg_in6 168 rfl rfl
theorem kt_6_169 : Jvm.Cond.methodLink "java/util/ArrayList" (79 : Nat) ({ cls := "java/lang/Math", name := "max", desc := "(II)I" } : Jvm.MethodName) ∈ sg_T := sg_in6 169 rfl rfl
theorem kt_6_170 : Jvm.Cond.classLink "java/util/ArrayList" (7 : Nat) "java/lang/Object" ∈ sg_T := sg_in6 170 rfl rfl
theorem kt_6_171 : Jvm.Cond.arrayClass Jvm.ClassFile.FieldType.boolean ∈ sg_T := sg_in6 171 rfl rfl
theorem kt_6_172 : Jvm.Cond.methodLink "MoonlitFloorLaw" (305 : Nat) ({ cls := "MoonlitFloorLaw", name := "text", desc := "(LMoonlitFloorLaw$Floor;I)Ljava/lang/String;" } : Jvm.MethodName) ∈ sg_T := sg_in6 172 rfl rfl
theorem kt_6_173 : Jvm.Cond.static ({ cls := "MoonlitFloorLaw", name := "text", desc := "(LMoonlitFloorLaw$Floor;I)Ljava/lang/String;" } : Jvm.MethodName) ∈ sg_T := sg_in6 173 rfl rfl
theorem kt_6_174 : Jvm.Cond.code ({ cls := "MoonlitFloorLaw", name := "text", desc := "(LMoonlitFloorLaw$Floor;I)Ljava/lang/String;" } : Jvm.MethodName) method_9_code (8 : Nat) (Option.some (Jvm.ClassFile.FieldType.object "java/lang/String")) ∈ sg_T := sg_in6 174 rfl rfl
theorem kt_6_175 : Jvm.Cond.classLink "MoonlitFloorLaw" (107 : Nat) "java/lang/StringBuilder" ∈ sg_T := sg_in6 175 rfl rfl
theorem kt_6_177 : Jvm.Cond.methodLink "MoonlitFloorLaw" (111 : Nat) ({ cls := "java/lang/StringBuilder", name := "<init>", desc := "(Ljava/lang/String;)V" } : Jvm.MethodName) ∈ sg_T := sg_in6 177 rfl rfl
theorem kt_6_178 : Jvm.Cond.instanceMethod ({ cls := "java/lang/StringBuilder", name := "<init>", desc := "(Ljava/lang/String;)V" } : Jvm.MethodName) ∈ sg_T := sg_in6 178 rfl rfl
theorem kt_6_179 : Jvm.Cond.code ({ cls := "java/lang/StringBuilder", name := "<init>", desc := "(Ljava/lang/String;)V" } : Jvm.MethodName) prog_32_method_3_code (2 : Nat) (Option.none : Option Jvm.ClassFile.FieldType) ∈ sg_T := sg_in6 179 rfl rfl
theorem kt_6_180 : Jvm.Cond.methodLink "java/lang/StringBuilder" (7 : Nat) ({ cls := "java/lang/AbstractStringBuilder", name := "<init>", desc := "(Ljava/lang/String;)V" } : Jvm.MethodName) ∈ sg_T := sg_in6 180 rfl rfl
theorem kt_6_181 : Jvm.Cond.instanceMethod ({ cls := "java/lang/AbstractStringBuilder", name := "<init>", desc := "(Ljava/lang/String;)V" } : Jvm.MethodName) ∈ sg_T := sg_in6 181 rfl rfl
theorem kt_6_182 : Jvm.Cond.code ({ cls := "java/lang/AbstractStringBuilder", name := "<init>", desc := "(Ljava/lang/String;)V" } : Jvm.MethodName) prog_15_method_3_code (5 : Nat) (Option.none : Option Jvm.ClassFile.FieldType) ∈ sg_T := sg_in6 182 rfl rfl
theorem kt_6_183 : Jvm.Cond.methodLink "java/lang/AbstractStringBuilder" (32 : Nat) ({ cls := "java/lang/String", name := "length", desc := "()I" } : Jvm.MethodName) ∈ sg_T := sg_in6 183 rfl rfl
theorem kt_6_184 : Jvm.Cond.constant "java/lang/AbstractStringBuilder" (38 : Nat) (2147483631 : Int32) ∈ sg_T := sg_in6 184 rfl rfl
theorem kt_6_185 : Jvm.Cond.constant "java/lang/AbstractStringBuilder" (39 : Nat) (2147483647 : Int32) ∈ sg_T := sg_in6 185 rfl rfl
theorem kt_6_186 : Jvm.Cond.methodLink "java/lang/AbstractStringBuilder" (40 : Nat) ({ cls := "java/lang/String", name := "coder", desc := "()B" } : Jvm.MethodName) ∈ sg_T := sg_in6 186 rfl rfl
theorem kt_6_187 : Jvm.Cond.methodLink "java/lang/AbstractStringBuilder" (43 : Nat) ({ cls := "java/lang/AbstractStringBuilder", name := "append", desc := "(Ljava/lang/String;)Ljava/lang/AbstractStringBuilder;" } : Jvm.MethodName) ∈ sg_T := sg_in6 187 rfl rfl
theorem kt_6_188 : Jvm.Cond.instanceMethod ({ cls := "java/lang/AbstractStringBuilder", name := "append", desc := "(Ljava/lang/String;)Ljava/lang/AbstractStringBuilder;" } : Jvm.MethodName) ∈ sg_T := sg_in6 188 rfl rfl
theorem kt_6_189 : Jvm.Cond.sameMethod "java/lang/AbstractStringBuilder" "java/lang/AbstractStringBuilder" "append" "(Ljava/lang/String;)Ljava/lang/AbstractStringBuilder;" ∈ sg_T := sg_in6 189 rfl rfl
theorem kt_6_190 : Jvm.Cond.selects "java/lang/StringBuilder" ({ cls := "java/lang/AbstractStringBuilder", name := "append", desc := "(Ljava/lang/String;)Ljava/lang/AbstractStringBuilder;" } : Jvm.MethodName) ({ cls := "java/lang/StringBuilder", name := "append", desc := "(Ljava/lang/String;)Ljava/lang/AbstractStringBuilder;" } : Jvm.MethodName) ∈ sg_T := sg_in6 190 rfl rfl
theorem kt_6_191 : Jvm.Cond.instanceMethod ({ cls := "java/lang/StringBuilder", name := "append", desc := "(Ljava/lang/String;)Ljava/lang/AbstractStringBuilder;" } : Jvm.MethodName) ∈ sg_T := sg_in6 191 rfl rfl
theorem kt_6_192 : Jvm.Cond.code ({ cls := "java/lang/StringBuilder", name := "append", desc := "(Ljava/lang/String;)Ljava/lang/AbstractStringBuilder;" } : Jvm.MethodName) prog_32_method_80_code (2 : Nat) (Option.some (Jvm.ClassFile.FieldType.object "java/lang/AbstractStringBuilder")) ∈ sg_T := sg_in6 192 rfl rfl
theorem kt_6_193 : Jvm.Cond.methodLink "java/lang/StringBuilder" (23 : Nat) ({ cls := "java/lang/StringBuilder", name := "append", desc := "(Ljava/lang/String;)Ljava/lang/StringBuilder;" } : Jvm.MethodName) ∈ sg_T := sg_in6 193 rfl rfl
theorem kt_6_194 : Jvm.Cond.instanceMethod ({ cls := "java/lang/StringBuilder", name := "append", desc := "(Ljava/lang/String;)Ljava/lang/StringBuilder;" } : Jvm.MethodName) ∈ sg_T := sg_in6 194 rfl rfl
theorem kt_6_195 : Jvm.Cond.selects "java/lang/StringBuilder" ({ cls := "java/lang/StringBuilder", name := "append", desc := "(Ljava/lang/String;)Ljava/lang/StringBuilder;" } : Jvm.MethodName) ({ cls := "java/lang/StringBuilder", name := "append", desc := "(Ljava/lang/String;)Ljava/lang/StringBuilder;" } : Jvm.MethodName) ∈ sg_T := sg_in6 195 rfl rfl
theorem kt_6_196 : Jvm.Cond.code ({ cls := "java/lang/StringBuilder", name := "append", desc := "(Ljava/lang/String;)Ljava/lang/StringBuilder;" } : Jvm.MethodName) prog_32_method_7_code (2 : Nat) (Option.some (Jvm.ClassFile.FieldType.object "java/lang/StringBuilder")) ∈ sg_T := sg_in6 196 rfl rfl
theorem kt_6_197 : Jvm.Cond.methodLink "java/lang/StringBuilder" (29 : Nat) ({ cls := "java/lang/AbstractStringBuilder", name := "append", desc := "(Ljava/lang/String;)Ljava/lang/AbstractStringBuilder;" } : Jvm.MethodName) ∈ sg_T := sg_in6 197 rfl rfl
theorem kt_6_198 : Jvm.Cond.code ({ cls := "java/lang/AbstractStringBuilder", name := "append", desc := "(Ljava/lang/String;)Ljava/lang/AbstractStringBuilder;" } : Jvm.MethodName) prog_15_method_22_code (3 : Nat) (Option.some (Jvm.ClassFile.FieldType.object "java/lang/AbstractStringBuilder")) ∈ sg_T := sg_in6 198 rfl rfl
theorem kt_6_199 : Jvm.Cond.methodLink "java/lang/AbstractStringBuilder" (204 : Nat) ({ cls := "java/lang/AbstractStringBuilder", name := "appendNull", desc := "()Ljava/lang/AbstractStringBuilder;" } : Jvm.MethodName) ∈ sg_T := sg_in6 199 rfl rfl
theorem kt_6_201 : Jvm.Cond.instanceMethod ({ cls := "java/lang/AbstractStringBuilder", name := "appendNull", desc := "()Ljava/lang/AbstractStringBuilder;" } : Jvm.MethodName) ∈ sg_T := sg_in6 201 rfl rfl
theorem kt_6_202 : Jvm.Cond.code ({ cls := "java/lang/AbstractStringBuilder", name := "appendNull", desc := "()Ljava/lang/AbstractStringBuilder;" } : Jvm.MethodName) prog_15_method_26_code (3 : Nat) (Option.some (Jvm.ClassFile.FieldType.object "java/lang/AbstractStringBuilder")) ∈ sg_T := sg_in6 202 rfl rfl
theorem kt_6_203 : Jvm.Cond.methodLink "java/lang/AbstractStringBuilder" (100 : Nat) ({ cls := "java/lang/AbstractStringBuilder", name := "ensureCapacityInternal", desc := "(I)V" } : Jvm.MethodName) ∈ sg_T := sg_in6 203 rfl rfl
theorem kt_6_205 : Jvm.Cond.instanceMethod ({ cls := "java/lang/AbstractStringBuilder", name := "ensureCapacityInternal", desc := "(I)V" } : Jvm.MethodName) ∈ sg_T := sg_in6 205 rfl rfl
theorem kt_6_206 : Jvm.Cond.code ({ cls := "java/lang/AbstractStringBuilder", name := "ensureCapacityInternal", desc := "(I)V" } : Jvm.MethodName) prog_15_method_9_code (3 : Nat) (Option.none : Option Jvm.ClassFile.FieldType) ∈ sg_T := sg_in6 206 rfl rfl
theorem kt_6_207 : Jvm.Cond.methodLink "java/lang/AbstractStringBuilder" (104 : Nat) ({ cls := "java/lang/AbstractStringBuilder", name := "newCapacity", desc := "(I)I" } : Jvm.MethodName) ∈ sg_T := sg_in6 207 rfl rfl
theorem kt_6_209 : Jvm.Cond.instanceMethod ({ cls := "java/lang/AbstractStringBuilder", name := "newCapacity", desc := "(I)I" } : Jvm.MethodName) ∈ sg_T := sg_in6 209 rfl rfl
theorem kt_6_210 : Jvm.Cond.code ({ cls := "java/lang/AbstractStringBuilder", name := "newCapacity", desc := "(I)I" } : Jvm.MethodName) prog_15_method_10_code (6 : Nat) (Option.some Jvm.ClassFile.FieldType.int) ∈ sg_T := sg_in6 210 rfl rfl
theorem kt_6_211 : Jvm.Cond.methodLink "java/lang/AbstractStringBuilder" (114 : Nat) ({ cls := "jdk/internal/util/ArraysSupport", name := "newLength", desc := "(III)I" } : Jvm.MethodName) ∈ sg_T := sg_in6 211 rfl rfl
theorem kt_6_212 : Jvm.Cond.methodLink "java/lang/AbstractStringBuilder" (108 : Nat) ({ cls := "java/util/Arrays", name := "copyOf", desc := "([BI)[B" } : Jvm.MethodName) ∈ sg_T := sg_in6 212 rfl rfl
theorem kt_6_213 : Jvm.Cond.static ({ cls := "java/util/Arrays", name := "copyOf", desc := "([BI)[B" } : Jvm.MethodName) ∈ sg_T := sg_in6 213 rfl rfl
theorem kt_6_214 : Jvm.Cond.code ({ cls := "java/util/Arrays", name := "copyOf", desc := "([BI)[B" } : Jvm.MethodName) prog_42_method_121_code (3 : Nat) (Option.some (Jvm.ClassFile.FieldType.array Jvm.ClassFile.FieldType.byte)) ∈ sg_T := sg_in6 214 rfl rfl
theorem kt_6_215 : Jvm.Cond.methodLink "java/util/Arrays" (310 : Nat) ({ cls := "[B", name := "clone", desc := "()Ljava/lang/Object;" } : Jvm.MethodName) ∈ sg_T := sg_in6 215 rfl rfl
theorem kt_6_216 : Jvm.Cond.sameMethod "[B" "java/lang/Object" "clone" "()Ljava/lang/Object;" ∈ sg_T := sg_in6 216 rfl rfl
theorem kt_6_217 : Jvm.Cond.native ({ cls := "java/lang/Object", name := "clone", desc := "()Ljava/lang/Object;" } : Jvm.MethodName) ∈ sg_T := sg_in6 217 rfl rfl
theorem kt_6_218 : Jvm.Cond.instanceMethod ({ cls := "java/lang/Object", name := "clone", desc := "()Ljava/lang/Object;" } : Jvm.MethodName) ∈ sg_T := sg_in6 218 rfl rfl
theorem kt_6_219 : Jvm.Cond.selects "[B" ({ cls := "[B", name := "clone", desc := "()Ljava/lang/Object;" } : Jvm.MethodName) ({ cls := "java/lang/Object", name := "clone", desc := "()Ljava/lang/Object;" } : Jvm.MethodName) ∈ sg_T := sg_in6 219 rfl rfl
theorem kt_6_221 : Jvm.Cond.classLink "java/util/Arrays" (311 : Nat) "[B" ∈ sg_T := sg_in6 221 rfl rfl
theorem kt_6_222 : Jvm.Cond.methodLink "java/lang/AbstractStringBuilder" (83 : Nat) ({ cls := "java/lang/AbstractStringBuilder", name := "isLatin1", desc := "()Z" } : Jvm.MethodName) ∈ sg_T := sg_in6 222 rfl rfl
theorem kt_6_223 : Jvm.Cond.instanceMethod ({ cls := "java/lang/AbstractStringBuilder", name := "isLatin1", desc := "()Z" } : Jvm.MethodName) ∈ sg_T := sg_in6 223 rfl rfl
theorem kt_6_224 : Jvm.Cond.sameMethod "java/lang/AbstractStringBuilder" "java/lang/AbstractStringBuilder" "isLatin1" "()Z" ∈ sg_T := sg_in6 224 rfl rfl
theorem kt_6_225 : Jvm.Cond.selects "java/lang/StringBuilder" ({ cls := "java/lang/AbstractStringBuilder", name := "isLatin1", desc := "()Z" } : Jvm.MethodName) ({ cls := "java/lang/AbstractStringBuilder", name := "isLatin1", desc := "()Z" } : Jvm.MethodName) ∈ sg_T := sg_in6 225 rfl rfl
theorem kt_6_226 : Jvm.Cond.code ({ cls := "java/lang/AbstractStringBuilder", name := "isLatin1", desc := "()Z" } : Jvm.MethodName) prog_15_method_68_code (1 : Nat) (Option.some Jvm.ClassFile.FieldType.boolean) ∈ sg_T := sg_in6 226 rfl rfl
theorem kt_6_227 : Jvm.Cond.methodLink "java/lang/AbstractStringBuilder" (226 : Nat) ({ cls := "java/lang/StringUTF16", name := "putCharsAt", desc := "([BICCCC)I" } : Jvm.MethodName) ∈ sg_T := sg_in6 227 rfl rfl
theorem kt_6_228 : Jvm.Cond.static ({ cls := "java/lang/StringUTF16", name := "putCharsAt", desc := "([BICCCC)I" } : Jvm.MethodName) ∈ sg_T := sg_in6 228 rfl rfl
theorem kt_6_229 : Jvm.Cond.code ({ cls := "java/lang/StringUTF16", name := "putCharsAt", desc := "([BICCCC)I" } : Jvm.MethodName) prog_34_method_81_code (7 : Nat) (Option.some Jvm.ClassFile.FieldType.int) ∈ sg_T := sg_in6 229 rfl rfl
theorem kt_6_230 : Jvm.Cond.methodLink "java/lang/StringUTF16" (96 : Nat) ({ cls := "java/lang/StringUTF16", name := "checkBoundsBeginEnd", desc := "(II[B)V" } : Jvm.MethodName) ∈ sg_T := sg_in6 230 rfl rfl
theorem kt_6_231 : Jvm.Cond.static ({ cls := "java/lang/StringUTF16", name := "checkBoundsBeginEnd", desc := "(II[B)V" } : Jvm.MethodName) ∈ sg_T := sg_in6 231 rfl rfl
theorem kt_6_232 : Jvm.Cond.code ({ cls := "java/lang/StringUTF16", name := "checkBoundsBeginEnd", desc := "(II[B)V" } : Jvm.MethodName) prog_34_method_93_code (3 : Nat) (Option.none : Option Jvm.ClassFile.FieldType) ∈ sg_T := sg_in6 232 rfl rfl
theorem kt_6_233 : Jvm.Cond.methodLink "java/lang/StringUTF16" (241 : Nat) ({ cls := "java/lang/String", name := "checkBoundsBeginEnd", desc := "(III)V" } : Jvm.MethodName) ∈ sg_T := sg_in6 233 rfl rfl
theorem kt_6_234 : Jvm.Cond.static ({ cls := "java/lang/String", name := "checkBoundsBeginEnd", desc := "(III)V" } : Jvm.MethodName) ∈ sg_T := sg_in6 234 rfl rfl
theorem kt_6_235 : Jvm.Cond.code ({ cls := "java/lang/String", name := "checkBoundsBeginEnd", desc := "(III)V" } : Jvm.MethodName) prog_31_method_158_code (3 : Nat) (Option.none : Option Jvm.ClassFile.FieldType) ∈ sg_T := sg_in6 235 rfl rfl
theorem kt_6_236 : Jvm.Cond.methodLink "java/lang/String" (1062 : Nat) ({ cls := "jdk/internal/util/Preconditions", name := "checkFromToIndex", desc := "(IIILjava/util/function/BiFunction;)I" } : Jvm.MethodName) ∈ sg_T := sg_in6 236 rfl rfl
theorem kt_6_237 : Jvm.Cond.static ({ cls := "jdk/internal/util/Preconditions", name := "checkFromToIndex", desc := "(IIILjava/util/function/BiFunction;)I" } : Jvm.MethodName) ∈ sg_T := sg_in6 237 rfl rfl
theorem kt_6_238 : Jvm.Cond.code ({ cls := "jdk/internal/util/Preconditions", name := "checkFromToIndex", desc := "(IIILjava/util/function/BiFunction;)I" } : Jvm.MethodName) prog_51_method_12_code (4 : Nat) (Option.some Jvm.ClassFile.FieldType.int) ∈ sg_T := sg_in6 238 rfl rfl
theorem kt_6_239 : Jvm.Cond.methodLink "java/lang/StringUTF16" (111 : Nat) ({ cls := "java/lang/StringUTF16", name := "putChar", desc := "([BII)V" } : Jvm.MethodName) ∈ sg_T := sg_in6 239 rfl rfl
theorem kt_7_0 : Jvm.Cond.static ({ cls := "java/lang/StringUTF16", name := "putChar", desc := "([BII)V" } : Jvm.MethodName) ∈ sg_T := sg_in7 0 rfl rfl
theorem kt_7_1 : Jvm.Cond.code ({ cls := "java/lang/StringUTF16", name := "putChar", desc := "([BII)V" } : Jvm.MethodName) prog_34_method_4_code (3 : Nat) (Option.none : Option Jvm.ClassFile.FieldType) ∈ sg_T := sg_in7 1 rfl rfl
theorem kt_7_2 : Jvm.Cond.methodLink "java/lang/AbstractStringBuilder" (208 : Nat) ({ cls := "java/lang/AbstractStringBuilder", name := "putStringAt", desc := "(ILjava/lang/String;)V" } : Jvm.MethodName) ∈ sg_T := sg_in7 2 rfl rfl
theorem kt_7_4 : Jvm.Cond.instanceMethod ({ cls := "java/lang/AbstractStringBuilder", name := "putStringAt", desc := "(ILjava/lang/String;)V" } : Jvm.MethodName) ∈ sg_T := sg_in7 4 rfl rfl
theorem kt_7_5 : Jvm.Cond.code ({ cls := "java/lang/AbstractStringBuilder", name := "putStringAt", desc := "(ILjava/lang/String;)V" } : Jvm.MethodName) prog_15_method_73_code (3 : Nat) (Option.none : Option Jvm.ClassFile.FieldType) ∈ sg_T := sg_in7 5 rfl rfl
theorem kt_7_6 : Jvm.Cond.methodLink "java/lang/AbstractStringBuilder" (397 : Nat) ({ cls := "java/lang/AbstractStringBuilder", name := "inflateIfNeededFor", desc := "(Ljava/lang/String;)V" } : Jvm.MethodName) ∈ sg_T := sg_in7 6 rfl rfl
theorem kt_7_8 : Jvm.Cond.instanceMethod ({ cls := "java/lang/AbstractStringBuilder", name := "inflateIfNeededFor", desc := "(Ljava/lang/String;)V" } : Jvm.MethodName) ∈ sg_T := sg_in7 8 rfl rfl
theorem kt_7_9 : Jvm.Cond.code ({ cls := "java/lang/AbstractStringBuilder", name := "inflateIfNeededFor", desc := "(Ljava/lang/String;)V" } : Jvm.MethodName) prog_15_method_71_code (2 : Nat) (Option.none : Option Jvm.ClassFile.FieldType) ∈ sg_T := sg_in7 9 rfl rfl
theorem kt_7_10 : Jvm.Cond.methodLink "java/lang/AbstractStringBuilder" (195 : Nat) ({ cls := "java/lang/AbstractStringBuilder", name := "inflate", desc := "()V" } : Jvm.MethodName) ∈ sg_T := sg_in7 10 rfl rfl
theorem kt_7_12 : Jvm.Cond.instanceMethod ({ cls := "java/lang/AbstractStringBuilder", name := "inflate", desc := "()V" } : Jvm.MethodName) ∈ sg_T := sg_in7 12 rfl rfl
theorem kt_7_13 : Jvm.Cond.code ({ cls := "java/lang/AbstractStringBuilder", name := "inflate", desc := "()V" } : Jvm.MethodName) prog_15_method_11_code (2 : Nat) (Option.none : Option Jvm.ClassFile.FieldType) ∈ sg_T := sg_in7 13 rfl rfl
theorem kt_7_14 : Jvm.Cond.methodLink "java/lang/AbstractStringBuilder" (125 : Nat) ({ cls := "java/lang/StringLatin1", name := "inflate", desc := "([BI[BII)V" } : Jvm.MethodName) ∈ sg_T := sg_in7 14 rfl rfl
theorem kt_7_15 : Jvm.Cond.static ({ cls := "java/lang/StringLatin1", name := "inflate", desc := "([BI[BII)V" } : Jvm.MethodName) ∈ sg_T := sg_in7 15 rfl rfl
theorem kt_7_16 : Jvm.Cond.code ({ cls := "java/lang/StringLatin1", name := "inflate", desc := "([BI[BII)V" } : Jvm.MethodName) prog_33_method_50_code (5 : Nat) (Option.none : Option Jvm.ClassFile.FieldType) ∈ sg_T := sg_in7 16 rfl rfl
theorem kt_7_17 : Jvm.Cond.methodLink "java/lang/StringLatin1" (240 : Nat) ({ cls := "java/lang/StringUTF16", name := "inflate", desc := "([BI[BII)V" } : Jvm.MethodName) ∈ sg_T := sg_in7 17 rfl rfl
theorem kt_7_18 : Jvm.Cond.static ({ cls := "java/lang/StringUTF16", name := "inflate", desc := "([BI[BII)V" } : Jvm.MethodName) ∈ sg_T := sg_in7 18 rfl rfl
theorem kt_7_19 : Jvm.Cond.code ({ cls := "java/lang/StringUTF16", name := "inflate", desc := "([BI[BII)V" } : Jvm.MethodName) prog_34_method_86_code (6 : Nat) (Option.none : Option Jvm.ClassFile.FieldType) ∈ sg_T := sg_in7 19 rfl rfl
theorem kt_7_20 : Jvm.Cond.methodLink "java/lang/StringUTF16" (173 : Nat) ({ cls := "java/lang/StringUTF16", name := "checkBoundsOffCount", desc := "(II[B)V" } : Jvm.MethodName) ∈ sg_T := sg_in7 20 rfl rfl
theorem kt_7_21 : Jvm.Cond.static ({ cls := "java/lang/StringUTF16", name := "checkBoundsOffCount", desc := "(II[B)V" } : Jvm.MethodName) ∈ sg_T := sg_in7 21 rfl rfl
theorem kt_7_22 : Jvm.Cond.code ({ cls := "java/lang/StringUTF16", name := "checkBoundsOffCount", desc := "(II[B)V" } : Jvm.MethodName) prog_34_method_94_code (3 : Nat) (Option.none : Option Jvm.ClassFile.FieldType) ∈ sg_T := sg_in7 22 rfl rfl
theorem kt_7_23 : Jvm.Cond.methodLink "java/lang/StringUTF16" (419 : Nat) ({ cls := "java/lang/String", name := "checkBoundsOffCount", desc := "(III)I" } : Jvm.MethodName) ∈ sg_T := sg_in7 23 rfl rfl
theorem kt_7_24 : Jvm.Cond.static ({ cls := "java/lang/String", name := "checkBoundsOffCount", desc := "(III)I" } : Jvm.MethodName) ∈ sg_T := sg_in7 24 rfl rfl
theorem kt_7_25 : Jvm.Cond.code ({ cls := "java/lang/String", name := "checkBoundsOffCount", desc := "(III)I" } : Jvm.MethodName) prog_31_method_157_code (3 : Nat) (Option.some Jvm.ClassFile.FieldType.int) ∈ sg_T := sg_in7 25 rfl rfl
theorem kt_7_26 : Jvm.Cond.methodLink "java/lang/String" (1065 : Nat) ({ cls := "jdk/internal/util/Preconditions", name := "checkFromIndexSize", desc := "(IIILjava/util/function/BiFunction;)I" } : Jvm.MethodName) ∈ sg_T := sg_in7 26 rfl rfl
theorem kt_7_27 : Jvm.Cond.static ({ cls := "jdk/internal/util/Preconditions", name := "checkFromIndexSize", desc := "(IIILjava/util/function/BiFunction;)I" } : Jvm.MethodName) ∈ sg_T := sg_in7 27 rfl rfl
theorem kt_7_28 : Jvm.Cond.code ({ cls := "jdk/internal/util/Preconditions", name := "checkFromIndexSize", desc := "(IIILjava/util/function/BiFunction;)I" } : Jvm.MethodName) prog_51_method_13_code (4 : Nat) (Option.some Jvm.ClassFile.FieldType.int) ∈ sg_T := sg_in7 28 rfl rfl
theorem kt_7_29 : Jvm.Cond.methodLink "java/lang/AbstractStringBuilder" (399 : Nat) ({ cls := "java/lang/String", name := "getBytes", desc := "([BIB)V" } : Jvm.MethodName) ∈ sg_T := sg_in7 29 rfl rfl
theorem kt_7_30 : Jvm.Cond.instanceMethod ({ cls := "java/lang/String", name := "getBytes", desc := "([BIB)V" } : Jvm.MethodName) ∈ sg_T := sg_in7 30 rfl rfl
theorem kt_7_31 : Jvm.Cond.selects "java/lang/String" ({ cls := "java/lang/String", name := "getBytes", desc := "([BIB)V" } : Jvm.MethodName) ({ cls := "java/lang/String", name := "getBytes", desc := "([BIB)V" } : Jvm.MethodName) ∈ sg_T := sg_in7 31 rfl rfl
theorem kt_7_32 : Jvm.Cond.code ({ cls := "java/lang/String", name := "getBytes", desc := "([BIB)V" } : Jvm.MethodName) prog_31_method_147_code (4 : Nat) (Option.none : Option Jvm.ClassFile.FieldType) ∈ sg_T := sg_in7 32 rfl rfl
theorem kt_7_33 : Jvm.Cond.methodLink "java/lang/String" (212 : Nat) ({ cls := "java/lang/System", name := "arraycopy", desc := "(Ljava/lang/Object;ILjava/lang/Object;II)V" } : Jvm.MethodName) ∈ sg_T := sg_in7 33 rfl rfl
theorem kt_7_34 : Jvm.Cond.methodLink "java/lang/String" (106 : Nat) ({ cls := "java/lang/StringLatin1", name := "inflate", desc := "([BI[BII)V" } : Jvm.MethodName) ∈ sg_T := sg_in7 34 rfl rfl
theorem kt_7_35 : Jvm.Cond.methodLink "MoonlitFloorLaw" (114 : Nat) ({ cls := "java/lang/StringBuilder", name := "append", desc := "(I)Ljava/lang/StringBuilder;" } : Jvm.MethodName) ∈ sg_T := sg_in7 35 rfl rfl
theorem kt_7_36 : Jvm.Cond.instanceMethod ({ cls := "java/lang/StringBuilder", name := "append", desc := "(I)Ljava/lang/StringBuilder;" } : Jvm.MethodName) ∈ sg_T := sg_in7 36 rfl rfl
theorem kt_7_37 : Jvm.Cond.selects "java/lang/StringBuilder" ({ cls := "java/lang/StringBuilder", name := "append", desc := "(I)Ljava/lang/StringBuilder;" } : Jvm.MethodName) ({ cls := "java/lang/StringBuilder", name := "append", desc := "(I)Ljava/lang/StringBuilder;" } : Jvm.MethodName) ∈ sg_T := sg_in7 37 rfl rfl
theorem kt_7_38 : Jvm.Cond.code ({ cls := "java/lang/StringBuilder", name := "append", desc := "(I)Ljava/lang/StringBuilder;" } : Jvm.MethodName) prog_32_method_15_code (2 : Nat) (Option.some (Jvm.ClassFile.FieldType.object "java/lang/StringBuilder")) ∈ sg_T := sg_in7 38 rfl rfl
theorem kt_7_39 : Jvm.Cond.methodLink "java/lang/StringBuilder" (53 : Nat) ({ cls := "java/lang/AbstractStringBuilder", name := "append", desc := "(I)Ljava/lang/AbstractStringBuilder;" } : Jvm.MethodName) ∈ sg_T := sg_in7 39 rfl rfl
theorem kt_7_40 : Jvm.Cond.instanceMethod ({ cls := "java/lang/AbstractStringBuilder", name := "append", desc := "(I)Ljava/lang/AbstractStringBuilder;" } : Jvm.MethodName) ∈ sg_T := sg_in7 40 rfl rfl
theorem kt_7_41 : Jvm.Cond.code ({ cls := "java/lang/AbstractStringBuilder", name := "append", desc := "(I)Ljava/lang/AbstractStringBuilder;" } : Jvm.MethodName) prog_15_method_32_code (4 : Nat) (Option.some (Jvm.ClassFile.FieldType.object "java/lang/AbstractStringBuilder")) ∈ sg_T := sg_in7 41 rfl rfl
theorem kt_7_42 : Jvm.Cond.methodLink "java/lang/AbstractStringBuilder" (245 : Nat) ({ cls := "java/lang/Integer", name := "stringSize", desc := "(I)I" } : Jvm.MethodName) ∈ sg_T := sg_in7 42 rfl rfl
theorem kt_7_43 : Jvm.Cond.static ({ cls := "java/lang/Integer", name := "stringSize", desc := "(I)I" } : Jvm.MethodName) ∈ sg_T := sg_in7 43 rfl rfl
theorem kt_7_44 : Jvm.Cond.code ({ cls := "java/lang/Integer", name := "stringSize", desc := "(I)I" } : Jvm.MethodName) prog_25_method_13_code (4 : Nat) (Option.some Jvm.ClassFile.FieldType.int) ∈ sg_T := sg_in7 44 rfl rfl
theorem kt_7_45 : Jvm.Cond.methodLink "java/lang/AbstractStringBuilder" (248 : Nat) ({ cls := "java/lang/Integer", name := "getChars", desc := "(II[B)I" } : Jvm.MethodName) ∈ sg_T := sg_in7 45 rfl rfl
theorem kt_7_46 : Jvm.Cond.static ({ cls := "java/lang/Integer", name := "getChars", desc := "(II[B)I" } : Jvm.MethodName) ∈ sg_T := sg_in7 46 rfl rfl
theorem kt_7_47 : Jvm.Cond.code ({ cls := "java/lang/Integer", name := "getChars", desc := "(II[B)I" } : Jvm.MethodName) prog_25_method_12_code (7 : Nat) (Option.some Jvm.ClassFile.FieldType.int) ∈ sg_T := sg_in7 47 rfl rfl
theorem kt_7_48 : Jvm.Cond.fieldLink "java/lang/Integer" (83 : Nat) "java/lang/Integer" "DigitOnes" "[B" ∈ sg_T := sg_in7 48 rfl rfl
theorem kt_7_50 : Jvm.Cond.fieldLink "java/lang/Integer" (87 : Nat) "java/lang/Integer" "DigitTens" "[B" ∈ sg_T := sg_in7 50 rfl rfl
theorem kt_7_52 : Jvm.Cond.methodLink "java/lang/AbstractStringBuilder" (251 : Nat) ({ cls := "java/lang/StringUTF16", name := "getChars", desc := "(III[B)I" } : Jvm.MethodName) ∈ sg_T := sg_in7 52 rfl rfl
theorem kt_7_53 : Jvm.Cond.static ({ cls := "java/lang/StringUTF16", name := "getChars", desc := "(III[B)I" } : Jvm.MethodName) ∈ sg_T := sg_in7 53 rfl rfl
theorem kt_7_54 : Jvm.Cond.code ({ cls := "java/lang/StringUTF16", name := "getChars", desc := "(III[B)I" } : Jvm.MethodName) prog_34_method_77_code (5 : Nat) (Option.some Jvm.ClassFile.FieldType.int) ∈ sg_T := sg_in7 54 rfl rfl
theorem kt_7_55 : Jvm.Cond.methodLink "java/lang/StringUTF16" (393 : Nat) ({ cls := "java/lang/StringUTF16", name := "getChars", desc := "(II[B)I" } : Jvm.MethodName) ∈ sg_T := sg_in7 55 rfl rfl
theorem kt_7_56 : Jvm.Cond.static ({ cls := "java/lang/StringUTF16", name := "getChars", desc := "(II[B)I" } : Jvm.MethodName) ∈ sg_T := sg_in7 56 rfl rfl
theorem kt_7_57 : Jvm.Cond.code ({ cls := "java/lang/StringUTF16", name := "getChars", desc := "(II[B)I" } : Jvm.MethodName) prog_34_method_89_code (7 : Nat) (Option.some Jvm.ClassFile.FieldType.int) ∈ sg_T := sg_in7 57 rfl rfl
theorem kt_7_58 : Jvm.Cond.fieldLink "java/lang/StringUTF16" (403 : Nat) "java/lang/Integer" "DigitOnes" "[B" ∈ sg_T := sg_in7 58 rfl rfl
theorem kt_7_59 : Jvm.Cond.fieldLink "java/lang/StringUTF16" (407 : Nat) "java/lang/Integer" "DigitTens" "[B" ∈ sg_T := sg_in7 59 rfl rfl
theorem kt_7_60 : Jvm.Cond.methodLink "MoonlitFloorLaw" (117 : Nat) ({ cls := "java/lang/StringBuilder", name := "append", desc := "(C)Ljava/lang/StringBuilder;" } : Jvm.MethodName) ∈ sg_T := sg_in7 60 rfl rfl
theorem kt_7_61 : Jvm.Cond.instanceMethod ({ cls := "java/lang/StringBuilder", name := "append", desc := "(C)Ljava/lang/StringBuilder;" } : Jvm.MethodName) ∈ sg_T := sg_in7 61 rfl rfl
theorem kt_7_62 : Jvm.Cond.selects "java/lang/StringBuilder" ({ cls := "java/lang/StringBuilder", name := "append", desc := "(C)Ljava/lang/StringBuilder;" } : Jvm.MethodName) ({ cls := "java/lang/StringBuilder", name := "append", desc := "(C)Ljava/lang/StringBuilder;" } : Jvm.MethodName) ∈ sg_T := sg_in7 62 rfl rfl
theorem kt_7_63 : Jvm.Cond.code ({ cls := "java/lang/StringBuilder", name := "append", desc := "(C)Ljava/lang/StringBuilder;" } : Jvm.MethodName) prog_32_method_14_code (2 : Nat) (Option.some (Jvm.ClassFile.FieldType.object "java/lang/StringBuilder")) ∈ sg_T := sg_in7 63 rfl rfl
theorem kt_7_64 : Jvm.Cond.methodLink "java/lang/StringBuilder" (50 : Nat) ({ cls := "java/lang/AbstractStringBuilder", name := "append", desc := "(C)Ljava/lang/AbstractStringBuilder;" } : Jvm.MethodName) ∈ sg_T := sg_in7 64 rfl rfl
theorem kt_7_65 : Jvm.Cond.instanceMethod ({ cls := "java/lang/AbstractStringBuilder", name := "append", desc := "(C)Ljava/lang/AbstractStringBuilder;" } : Jvm.MethodName) ∈ sg_T := sg_in7 65 rfl rfl
theorem kt_7_66 : Jvm.Cond.code ({ cls := "java/lang/AbstractStringBuilder", name := "append", desc := "(C)Ljava/lang/AbstractStringBuilder;" } : Jvm.MethodName) prog_15_method_31_code (2 : Nat) (Option.some (Jvm.ClassFile.FieldType.object "java/lang/AbstractStringBuilder")) ∈ sg_T := sg_in7 66 rfl rfl
theorem kt_7_67 : Jvm.Cond.methodLink "java/lang/AbstractStringBuilder" (191 : Nat) ({ cls := "java/lang/StringLatin1", name := "canEncode", desc := "(C)Z" } : Jvm.MethodName) ∈ sg_T := sg_in7 67 rfl rfl
theorem kt_7_68 : Jvm.Cond.static ({ cls := "java/lang/StringLatin1", name := "canEncode", desc := "(C)Z" } : Jvm.MethodName) ∈ sg_T := sg_in7 68 rfl rfl
theorem kt_7_69 : Jvm.Cond.code ({ cls := "java/lang/StringLatin1", name := "canEncode", desc := "(C)Z" } : Jvm.MethodName) prog_33_method_3_code (1 : Nat) (Option.some Jvm.ClassFile.FieldType.boolean) ∈ sg_T := sg_in7 69 rfl rfl
theorem kt_7_70 : Jvm.Cond.methodLink "java/lang/AbstractStringBuilder" (197 : Nat) ({ cls := "java/lang/StringUTF16", name := "putCharSB", desc := "([BII)V" } : Jvm.MethodName) ∈ sg_T := sg_in7 70 rfl rfl
theorem kt_7_71 : Jvm.Cond.static ({ cls := "java/lang/StringUTF16", name := "putCharSB", desc := "([BII)V" } : Jvm.MethodName) ∈ sg_T := sg_in7 71 rfl rfl
theorem kt_7_72 : Jvm.Cond.code ({ cls := "java/lang/StringUTF16", name := "putCharSB", desc := "([BII)V" } : Jvm.MethodName) prog_34_method_71_code (3 : Nat) (Option.none : Option Jvm.ClassFile.FieldType) ∈ sg_T := sg_in7 72 rfl rfl
theorem kt_7_74 : Jvm.Cond.methodLink "MoonlitFloorLaw" (122 : Nat) ({ cls := "java/lang/StringBuilder", name := "append", desc := "(Ljava/lang/String;)Ljava/lang/StringBuilder;" } : Jvm.MethodName) ∈ sg_T := sg_in7 74 rfl rfl
theorem kt_7_90 : Jvm.Cond.methodLink "MoonlitFloorLaw" (155 : Nat) ({ cls := "java/util/ArrayList", name := "size", desc := "()I" } : Jvm.MethodName) ∈ sg_T := sg_in7 90 rfl rfl
theorem kt_7_91 : Jvm.Cond.instanceMethod ({ cls := "java/util/ArrayList", name := "size", desc := "()I" } : Jvm.MethodName) ∈ sg_T := sg_in7 91 rfl rfl
theorem kt_7_92 : Jvm.Cond.selects "java/util/ArrayList" ({ cls := "java/util/ArrayList", name := "size", desc := "()I" } : Jvm.MethodName) ({ cls := "java/util/ArrayList", name := "size", desc := "()I" } : Jvm.MethodName) ∈ sg_T := sg_in7 92 rfl rfl
theorem kt_7_93 : Jvm.Cond.code ({ cls := "java/util/ArrayList", name := "size", desc := "()I" } : Jvm.MethodName) prog_41_method_8_code (1 : Nat) (Option.some Jvm.ClassFile.FieldType.int) ∈ sg_T := sg_in7 93 rfl rfl
theorem kt_7_95 : Jvm.Cond.methodLink "MoonlitFloorLaw" (160 : Nat) ({ cls := "java/util/ArrayList", name := "get", desc := "(I)Ljava/lang/Object;" } : Jvm.MethodName) ∈ sg_T := sg_in7 95 rfl rfl
theorem kt_7_96 : Jvm.Cond.instanceMethod ({ cls := "java/util/ArrayList", name := "get", desc := "(I)Ljava/lang/Object;" } : Jvm.MethodName) ∈ sg_T := sg_in7 96 rfl rfl
theorem kt_7_97 : Jvm.Cond.selects "java/util/ArrayList" ({ cls := "java/util/ArrayList", name := "get", desc := "(I)Ljava/lang/Object;" } : Jvm.MethodName) ({ cls := "java/util/ArrayList", name := "get", desc := "(I)Ljava/lang/Object;" } : Jvm.MethodName) ∈ sg_T := sg_in7 97 rfl rfl
theorem kt_7_98 : Jvm.Cond.code ({ cls := "java/util/ArrayList", name := "get", desc := "(I)Ljava/lang/Object;" } : Jvm.MethodName) prog_41_method_20_code (2 : Nat) (Option.some (Jvm.ClassFile.FieldType.object "java/lang/Object")) ∈ sg_T := sg_in7 98 rfl rfl
theorem kt_7_99 : Jvm.Cond.methodLink "java/util/ArrayList" (118 : Nat) ({ cls := "java/util/Objects", name := "checkIndex", desc := "(II)I" } : Jvm.MethodName) ∈ sg_T := sg_in7 99 rfl rfl
theorem kt_7_100 : Jvm.Cond.static ({ cls := "java/util/Objects", name := "checkIndex", desc := "(II)I" } : Jvm.MethodName) ∈ sg_T := sg_in7 100 rfl rfl
theorem kt_7_101 : Jvm.Cond.code ({ cls := "java/util/Objects", name := "checkIndex", desc := "(II)I" } : Jvm.MethodName) prog_45_method_17_code (2 : Nat) (Option.some Jvm.ClassFile.FieldType.int) ∈ sg_T := sg_in7 101 rfl rfl
theorem kt_7_102 : Jvm.Cond.methodLink "java/util/Objects" (105 : Nat) ({ cls := "jdk/internal/util/Preconditions", name := "checkIndex", desc := "(IILjava/util/function/BiFunction;)I" } : Jvm.MethodName) ∈ sg_T := sg_in7 102 rfl rfl
theorem kt_7_103 : Jvm.Cond.methodLink "java/util/ArrayList" (123 : Nat) ({ cls := "java/util/ArrayList", name := "elementData", desc := "(I)Ljava/lang/Object;" } : Jvm.MethodName) ∈ sg_T := sg_in7 103 rfl rfl
theorem kt_7_104 : Jvm.Cond.instanceMethod ({ cls := "java/util/ArrayList", name := "elementData", desc := "(I)Ljava/lang/Object;" } : Jvm.MethodName) ∈ sg_T := sg_in7 104 rfl rfl
theorem kt_7_105 : Jvm.Cond.selects "java/util/ArrayList" ({ cls := "java/util/ArrayList", name := "elementData", desc := "(I)Ljava/lang/Object;" } : Jvm.MethodName) ({ cls := "java/util/ArrayList", name := "elementData", desc := "(I)Ljava/lang/Object;" } : Jvm.MethodName) ∈ sg_T := sg_in7 105 rfl rfl
theorem kt_7_106 : Jvm.Cond.code ({ cls := "java/util/ArrayList", name := "elementData", desc := "(I)Ljava/lang/Object;" } : Jvm.MethodName) prog_41_method_18_code (2 : Nat) (Option.some (Jvm.ClassFile.FieldType.object "java/lang/Object")) ∈ sg_T := sg_in7 106 rfl rfl
theorem kt_7_107 : Jvm.Cond.classLink "MoonlitFloorLaw" (164 : Nat) "[I" ∈ sg_T := sg_in7 107 rfl rfl
theorem kt_7_109 : Jvm.Cond.methodLink "MoonlitFloorLaw" (167 : Nat) ({ cls := "MoonlitFloorLaw$Floor", name := "relocate", desc := "()V" } : Jvm.MethodName) ∈ sg_T := sg_in7 109 rfl rfl
theorem kt_7_110 : Jvm.Cond.instanceMethod ({ cls := "MoonlitFloorLaw$Floor", name := "relocate", desc := "()V" } : Jvm.MethodName) ∈ sg_T := sg_in7 110 rfl rfl
theorem kt_7_111 : Jvm.Cond.selects "MoonlitFloorLaw$Floor" ({ cls := "MoonlitFloorLaw$Floor", name := "relocate", desc := "()V" } : Jvm.MethodName) ({ cls := "MoonlitFloorLaw$Floor", name := "relocate", desc := "()V" } : Jvm.MethodName) ∈ sg_T := sg_in7 111 rfl rfl
theorem kt_7_112 : Jvm.Cond.code ({ cls := "MoonlitFloorLaw$Floor", name := "relocate", desc := "()V" } : Jvm.MethodName) prog_12_method_15_code (3 : Nat) (Option.none : Option Jvm.ClassFile.FieldType) ∈ sg_T := sg_in7 112 rfl rfl
theorem kt_7_113 : Jvm.Cond.methodLink "MoonlitFloorLaw$Floor" (139 : Nat) ({ cls := "MoonlitFloorLaw$Floor", name := "shines", desc := "()Z" } : Jvm.MethodName) ∈ sg_T := sg_in7 113 rfl rfl
theorem kt_7_114 : Jvm.Cond.instanceMethod ({ cls := "MoonlitFloorLaw$Floor", name := "shines", desc := "()Z" } : Jvm.MethodName) ∈ sg_T := sg_in7 114 rfl rfl
theorem kt_7_115 : Jvm.Cond.selects "MoonlitFloorLaw$Floor" ({ cls := "MoonlitFloorLaw$Floor", name := "shines", desc := "()Z" } : Jvm.MethodName) ({ cls := "MoonlitFloorLaw$Floor", name := "shines", desc := "()Z" } : Jvm.MethodName) ∈ sg_T := sg_in7 115 rfl rfl
theorem kt_7_116 : Jvm.Cond.code ({ cls := "MoonlitFloorLaw$Floor", name := "shines", desc := "()Z" } : Jvm.MethodName) prog_12_method_5_code (3 : Nat) (Option.some Jvm.ClassFile.FieldType.boolean) ∈ sg_T := sg_in7 116 rfl rfl
theorem kt_7_117 : Jvm.Cond.methodLink "MoonlitFloorLaw$Floor" (136 : Nat) ({ cls := "MoonlitFloorLaw$Floor", name := "bright", desc := "()I" } : Jvm.MethodName) ∈ sg_T := sg_in7 117 rfl rfl
theorem kt_7_118 : Jvm.Cond.instanceMethod ({ cls := "MoonlitFloorLaw$Floor", name := "bright", desc := "()I" } : Jvm.MethodName) ∈ sg_T := sg_in7 118 rfl rfl
theorem kt_7_119 : Jvm.Cond.selects "MoonlitFloorLaw$Floor" ({ cls := "MoonlitFloorLaw$Floor", name := "bright", desc := "()I" } : Jvm.MethodName) ({ cls := "MoonlitFloorLaw$Floor", name := "bright", desc := "()I" } : Jvm.MethodName) ∈ sg_T := sg_in7 119 rfl rfl
theorem kt_7_120 : Jvm.Cond.code ({ cls := "MoonlitFloorLaw$Floor", name := "bright", desc := "()I" } : Jvm.MethodName) prog_12_method_4_code (1 : Nat) (Option.some Jvm.ClassFile.FieldType.int) ∈ sg_T := sg_in7 120 rfl rfl
theorem kt_7_121 : Jvm.Cond.methodLink "MoonlitFloorLaw$Floor" (130 : Nat) ({ cls := "java/lang/Math", name := "abs", desc := "(I)I" } : Jvm.MethodName) ∈ sg_T := sg_in7 121 rfl rfl
theorem kt_7_122 : Jvm.Cond.methodLink "MoonlitFloorLaw$Floor" (118 : Nat) ({ cls := "java/util/ArrayList", name := "size", desc := "()I" } : Jvm.MethodName) ∈ sg_T := sg_in7 122 rfl rfl
theorem kt_7_123 : Jvm.Cond.methodLink "MoonlitFloorLaw$Floor" (122 : Nat) ({ cls := "java/util/ArrayList", name := "get", desc := "(I)Ljava/lang/Object;" } : Jvm.MethodName) ∈ sg_T := sg_in7 123 rfl rfl
theorem kt_7_124 : Jvm.Cond.classLink "MoonlitFloorLaw$Floor" (114 : Nat) "[I" ∈ sg_T := sg_in7 124 rfl rfl
theorem kt_7_125 : Jvm.Cond.methodLink "MoonlitFloorLaw$Floor" (168 : Nat) ({ cls := "MoonlitFloorLaw$Floor", name := "lit", desc := "(I)Z" } : Jvm.MethodName) ∈ sg_T := sg_in7 125 rfl rfl
theorem kt_7_126 : Jvm.Cond.instanceMethod ({ cls := "MoonlitFloorLaw$Floor", name := "lit", desc := "(I)Z" } : Jvm.MethodName) ∈ sg_T := sg_in7 126 rfl rfl
theorem kt_7_127 : Jvm.Cond.selects "MoonlitFloorLaw$Floor" ({ cls := "MoonlitFloorLaw$Floor", name := "lit", desc := "(I)Z" } : Jvm.MethodName) ({ cls := "MoonlitFloorLaw$Floor", name := "lit", desc := "(I)Z" } : Jvm.MethodName) ∈ sg_T := sg_in7 127 rfl rfl
theorem kt_7_128 : Jvm.Cond.code ({ cls := "MoonlitFloorLaw$Floor", name := "lit", desc := "(I)Z" } : Jvm.MethodName) prog_12_method_6_code (2 : Nat) (Option.some Jvm.ClassFile.FieldType.boolean) ∈ sg_T := sg_in7 128 rfl rfl
theorem kt_7_129 : Jvm.Cond.methodLink "MoonlitFloorLaw$Floor" (172 : Nat) ({ cls := "MoonlitFloorLaw$Floor", name := "tiles", desc := "()I" } : Jvm.MethodName) ∈ sg_T := sg_in7 129 rfl rfl
theorem kt_7_134 : Jvm.Cond.methodLink "MoonlitFloorLaw" (178 : Nat) ({ cls := "MoonlitFloorLaw$Floor", name := "advance", desc := "(I)I" } : Jvm.MethodName) ∈ sg_T := sg_in7 134 rfl rfl
theorem kt_7_135 : Jvm.Cond.instanceMethod ({ cls := "MoonlitFloorLaw$Floor", name := "advance", desc := "(I)I" } : Jvm.MethodName) ∈ sg_T := sg_in7 135 rfl rfl
theorem kt_7_136 : Jvm.Cond.selects "MoonlitFloorLaw$Floor" ({ cls := "MoonlitFloorLaw$Floor", name := "advance", desc := "(I)I" } : Jvm.MethodName) ({ cls := "MoonlitFloorLaw$Floor", name := "advance", desc := "(I)I" } : Jvm.MethodName) ∈ sg_T := sg_in7 136 rfl rfl
theorem kt_7_137 : Jvm.Cond.code ({ cls := "MoonlitFloorLaw$Floor", name := "advance", desc := "(I)I" } : Jvm.MethodName) prog_12_method_16_code (5 : Nat) (Option.some Jvm.ClassFile.FieldType.int) ∈ sg_T := sg_in7 137 rfl rfl
theorem kt_7_138 : Jvm.Cond.methodLink "MoonlitFloorLaw$Floor" (175 : Nat) ({ cls := "MoonlitFloorLaw$Floor", name := "prowl", desc := "()V" } : Jvm.MethodName) ∈ sg_T := sg_in7 138 rfl rfl
theorem kt_7_139 : Jvm.Cond.instanceMethod ({ cls := "MoonlitFloorLaw$Floor", name := "prowl", desc := "()V" } : Jvm.MethodName) ∈ sg_T := sg_in7 139 rfl rfl
theorem kt_7_140 : Jvm.Cond.selects "MoonlitFloorLaw$Floor" ({ cls := "MoonlitFloorLaw$Floor", name := "prowl", desc := "()V" } : Jvm.MethodName) ({ cls := "MoonlitFloorLaw$Floor", name := "prowl", desc := "()V" } : Jvm.MethodName) ∈ sg_T := sg_in7 140 rfl rfl
theorem kt_7_141 : Jvm.Cond.code ({ cls := "MoonlitFloorLaw$Floor", name := "prowl", desc := "()V" } : Jvm.MethodName) prog_12_method_11_code (5 : Nat) (Option.none : Option Jvm.ClassFile.FieldType) ∈ sg_T := sg_in7 141 rfl rfl
theorem kt_7_142 : Jvm.Cond.methodLink "MoonlitFloorLaw$Floor" (147 : Nat) ({ cls := "MoonlitFloorLaw$Floor", name := "beside", desc := "(II)I" } : Jvm.MethodName) ∈ sg_T := sg_in7 142 rfl rfl
theorem kt_7_143 : Jvm.Cond.instanceMethod ({ cls := "MoonlitFloorLaw$Floor", name := "beside", desc := "(II)I" } : Jvm.MethodName) ∈ sg_T := sg_in7 143 rfl rfl
theorem kt_7_144 : Jvm.Cond.selects "MoonlitFloorLaw$Floor" ({ cls := "MoonlitFloorLaw$Floor", name := "beside", desc := "(II)I" } : Jvm.MethodName) ({ cls := "MoonlitFloorLaw$Floor", name := "beside", desc := "(II)I" } : Jvm.MethodName) ∈ sg_T := sg_in7 144 rfl rfl
theorem kt_7_145 : Jvm.Cond.code ({ cls := "MoonlitFloorLaw$Floor", name := "beside", desc := "(II)I" } : Jvm.MethodName) prog_12_method_8_code (5 : Nat) (Option.some Jvm.ClassFile.FieldType.int) ∈ sg_T := sg_in7 145 rfl rfl
theorem kt_7_146 : Jvm.Cond.methodLink "MoonlitFloorLaw$Floor" (178 : Nat) ({ cls := "MoonlitFloorLaw$Floor", name := "walk", desc := "()V" } : Jvm.MethodName) ∈ sg_T := sg_in7 146 rfl rfl
theorem kt_7_147 : Jvm.Cond.instanceMethod ({ cls := "MoonlitFloorLaw$Floor", name := "walk", desc := "()V" } : Jvm.MethodName) ∈ sg_T := sg_in7 147 rfl rfl
theorem kt_7_148 : Jvm.Cond.selects "MoonlitFloorLaw$Floor" ({ cls := "MoonlitFloorLaw$Floor", name := "walk", desc := "()V" } : Jvm.MethodName) ({ cls := "MoonlitFloorLaw$Floor", name := "walk", desc := "()V" } : Jvm.MethodName) ∈ sg_T := sg_in7 148 rfl rfl
theorem kt_7_149 : Jvm.Cond.code ({ cls := "MoonlitFloorLaw$Floor", name := "walk", desc := "()V" } : Jvm.MethodName) prog_12_method_12_code (5 : Nat) (Option.none : Option Jvm.ClassFile.FieldType) ∈ sg_T := sg_in7 149 rfl rfl
theorem kt_7_150 : Jvm.Cond.methodLink "MoonlitFloorLaw$Floor" (153 : Nat) ({ cls := "MoonlitFloorLaw$Floor", name := "steps", desc := "()I" } : Jvm.MethodName) ∈ sg_T := sg_in7 150 rfl rfl
theorem kt_7_151 : Jvm.Cond.instanceMethod ({ cls := "MoonlitFloorLaw$Floor", name := "steps", desc := "()I" } : Jvm.MethodName) ∈ sg_T := sg_in7 151 rfl rfl
theorem kt_7_152 : Jvm.Cond.selects "MoonlitFloorLaw$Floor" ({ cls := "MoonlitFloorLaw$Floor", name := "steps", desc := "()I" } : Jvm.MethodName) ({ cls := "MoonlitFloorLaw$Floor", name := "steps", desc := "()I" } : Jvm.MethodName) ∈ sg_T := sg_in7 152 rfl rfl
theorem kt_7_153 : Jvm.Cond.code ({ cls := "MoonlitFloorLaw$Floor", name := "steps", desc := "()I" } : Jvm.MethodName) prog_12_method_7_code (1 : Nat) (Option.some Jvm.ClassFile.FieldType.int) ∈ sg_T := sg_in7 153 rfl rfl
theorem kt_7_154 : Jvm.Cond.methodLink "MoonlitFloorLaw$Floor" (143 : Nat) ({ cls := "java/lang/Math", name := "min", desc := "(II)I" } : Jvm.MethodName) ∈ sg_T := sg_in7 154 rfl rfl
theorem kt_7_155 : Jvm.Cond.methodLink "MoonlitFloorLaw$Floor" (156 : Nat) ({ cls := "MoonlitFloorLaw$Floor", name := "block", desc := "()I" } : Jvm.MethodName) ∈ sg_T := sg_in7 155 rfl rfl
theorem kt_7_156 : Jvm.Cond.instanceMethod ({ cls := "MoonlitFloorLaw$Floor", name := "block", desc := "()I" } : Jvm.MethodName) ∈ sg_T := sg_in7 156 rfl rfl
theorem kt_7_157 : Jvm.Cond.selects "MoonlitFloorLaw$Floor" ({ cls := "MoonlitFloorLaw$Floor", name := "block", desc := "()I" } : Jvm.MethodName) ({ cls := "MoonlitFloorLaw$Floor", name := "block", desc := "()I" } : Jvm.MethodName) ∈ sg_T := sg_in7 157 rfl rfl
theorem kt_7_158 : Jvm.Cond.code ({ cls := "MoonlitFloorLaw$Floor", name := "block", desc := "()I" } : Jvm.MethodName) prog_12_method_10_code (2 : Nat) (Option.some Jvm.ClassFile.FieldType.int) ∈ sg_T := sg_in7 158 rfl rfl
theorem kt_7_159 : Jvm.Cond.methodLink "MoonlitFloorLaw$Floor" (150 : Nat) ({ cls := "MoonlitFloorLaw$Floor", name := "ahead", desc := "()I" } : Jvm.MethodName) ∈ sg_T := sg_in7 159 rfl rfl
theorem kt_7_160 : Jvm.Cond.instanceMethod ({ cls := "MoonlitFloorLaw$Floor", name := "ahead", desc := "()I" } : Jvm.MethodName) ∈ sg_T := sg_in7 160 rfl rfl
theorem kt_7_161 : Jvm.Cond.selects "MoonlitFloorLaw$Floor" ({ cls := "MoonlitFloorLaw$Floor", name := "ahead", desc := "()I" } : Jvm.MethodName) ({ cls := "MoonlitFloorLaw$Floor", name := "ahead", desc := "()I" } : Jvm.MethodName) ∈ sg_T := sg_in7 161 rfl rfl
theorem kt_7_162 : Jvm.Cond.code ({ cls := "MoonlitFloorLaw$Floor", name := "ahead", desc := "()I" } : Jvm.MethodName) prog_12_method_9_code (1 : Nat) (Option.some Jvm.ClassFile.FieldType.int) ∈ sg_T := sg_in7 162 rfl rfl
theorem kt_7_163 : Jvm.Cond.methodLink "MoonlitFloorLaw$Floor" (181 : Nat) ({ cls := "java/lang/Math", name := "max", desc := "(II)I" } : Jvm.MethodName) ∈ sg_T := sg_in7 163 rfl rfl
theorem kt_7_164 : Jvm.Cond.methodLink "MoonlitFloorLaw$Floor" (184 : Nat) ({ cls := "MoonlitFloorLaw$Floor", name := "dawn", desc := "()V" } : Jvm.MethodName) ∈ sg_T := sg_in7 164 rfl rfl
theorem kt_7_165 : Jvm.Cond.instanceMethod ({ cls := "MoonlitFloorLaw$Floor", name := "dawn", desc := "()V" } : Jvm.MethodName) ∈ sg_T := sg_in7 165 rfl rfl
theorem kt_7_166 : Jvm.Cond.selects "MoonlitFloorLaw$Floor" ({ cls := "MoonlitFloorLaw$Floor", name := "dawn", desc := "()V" } : Jvm.MethodName) ({ cls := "MoonlitFloorLaw$Floor", name := "dawn", desc := "()V" } : Jvm.MethodName) ∈ sg_T := sg_in7 166 rfl rfl
theorem kt_7_167 : Jvm.Cond.code ({ cls := "MoonlitFloorLaw$Floor", name := "dawn", desc := "()V" } : Jvm.MethodName) prog_12_method_14_code (3 : Nat) (Option.none : Option Jvm.ClassFile.FieldType) ∈ sg_T := sg_in7 167 rfl rfl
theorem kt_7_168 : Jvm.Cond.methodLink "MoonlitFloorLaw$Floor" (159 : Nat) ({ cls := "MoonlitFloorLaw$Floor", name := "rank", desc := "(I)I" } : Jvm.MethodName) ∈ sg_T := sg_in7 168 rfl rfl
theorem kt_7_169 : Jvm.Cond.instanceMethod ({ cls := "MoonlitFloorLaw$Floor", name := "rank", desc := "(I)I" } : Jvm.MethodName) ∈ sg_T := sg_in7 169 rfl rfl
theorem kt_7_170 : Jvm.Cond.selects "MoonlitFloorLaw$Floor" ({ cls := "MoonlitFloorLaw$Floor", name := "rank", desc := "(I)I" } : Jvm.MethodName) ({ cls := "MoonlitFloorLaw$Floor", name := "rank", desc := "(I)I" } : Jvm.MethodName) ∈ sg_T := sg_in7 170 rfl rfl
theorem kt_7_171 : Jvm.Cond.code ({ cls := "MoonlitFloorLaw$Floor", name := "rank", desc := "(I)I" } : Jvm.MethodName) prog_12_method_13_code (4 : Nat) (Option.some Jvm.ClassFile.FieldType.int) ∈ sg_T := sg_in7 171 rfl rfl
theorem kt_7_172 : Jvm.Cond.methodLink "MoonlitFloorLaw$Floor" (162 : Nat) ({ cls := "java/util/ArrayList", name := "add", desc := "(ILjava/lang/Object;)V" } : Jvm.MethodName) ∈ sg_T := sg_in7 172 rfl rfl
theorem kt_7_173 : Jvm.Cond.instanceMethod ({ cls := "java/util/ArrayList", name := "add", desc := "(ILjava/lang/Object;)V" } : Jvm.MethodName) ∈ sg_T := sg_in7 173 rfl rfl
theorem kt_7_174 : Jvm.Cond.selects "java/util/ArrayList" ({ cls := "java/util/ArrayList", name := "add", desc := "(ILjava/lang/Object;)V" } : Jvm.MethodName) ({ cls := "java/util/ArrayList", name := "add", desc := "(ILjava/lang/Object;)V" } : Jvm.MethodName) ∈ sg_T := sg_in7 174 rfl rfl
theorem kt_7_175 : Jvm.Cond.code ({ cls := "java/util/ArrayList", name := "add", desc := "(ILjava/lang/Object;)V" } : Jvm.MethodName) prog_41_method_26_code (5 : Nat) (Option.none : Option Jvm.ClassFile.FieldType) ∈ sg_T := sg_in7 175 rfl rfl
theorem kt_7_176 : Jvm.Cond.methodLink "java/util/ArrayList" (135 : Nat) ({ cls := "java/util/ArrayList", name := "rangeCheckForAdd", desc := "(I)V" } : Jvm.MethodName) ∈ sg_T := sg_in7 176 rfl rfl
theorem kt_7_178 : Jvm.Cond.instanceMethod ({ cls := "java/util/ArrayList", name := "rangeCheckForAdd", desc := "(I)V" } : Jvm.MethodName) ∈ sg_T := sg_in7 178 rfl rfl
theorem kt_7_179 : Jvm.Cond.code ({ cls := "java/util/ArrayList", name := "rangeCheckForAdd", desc := "(I)V" } : Jvm.MethodName) prog_41_method_45_code (2 : Nat) (Option.none : Option Jvm.ClassFile.FieldType) ∈ sg_T := sg_in7 179 rfl rfl
theorem kt_7_180 : Jvm.Cond.methodLink "java/util/ArrayList" (112 : Nat) ({ cls := "java/lang/System", name := "arraycopy", desc := "(Ljava/lang/Object;ILjava/lang/Object;II)V" } : Jvm.MethodName) ∈ sg_T := sg_in7 180 rfl rfl
theorem kt_7_181 : Jvm.Cond.methodLink "MoonlitFloorLaw$Floor" (165 : Nat) ({ cls := "java/util/ArrayList", name := "remove", desc := "(I)Ljava/lang/Object;" } : Jvm.MethodName) ∈ sg_T := sg_in7 181 rfl rfl
theorem kt_7_182 : Jvm.Cond.instanceMethod ({ cls := "java/util/ArrayList", name := "remove", desc := "(I)Ljava/lang/Object;" } : Jvm.MethodName) ∈ sg_T := sg_in7 182 rfl rfl
theorem kt_7_183 : Jvm.Cond.selects "java/util/ArrayList" ({ cls := "java/util/ArrayList", name := "remove", desc := "(I)Ljava/lang/Object;" } : Jvm.MethodName) ({ cls := "java/util/ArrayList", name := "remove", desc := "(I)Ljava/lang/Object;" } : Jvm.MethodName) ∈ sg_T := sg_in7 183 rfl rfl
theorem kt_7_184 : Jvm.Cond.code ({ cls := "java/util/ArrayList", name := "remove", desc := "(I)Ljava/lang/Object;" } : Jvm.MethodName) prog_41_method_29_code (4 : Nat) (Option.some (Jvm.ClassFile.FieldType.object "java/lang/Object")) ∈ sg_T := sg_in7 184 rfl rfl
theorem kt_7_185 : Jvm.Cond.methodLink "java/util/ArrayList" (144 : Nat) ({ cls := "java/util/ArrayList", name := "fastRemove", desc := "([Ljava/lang/Object;I)V" } : Jvm.MethodName) ∈ sg_T := sg_in7 185 rfl rfl
theorem kt_7_187 : Jvm.Cond.instanceMethod ({ cls := "java/util/ArrayList", name := "fastRemove", desc := "([Ljava/lang/Object;I)V" } : Jvm.MethodName) ∈ sg_T := sg_in7 187 rfl rfl
theorem kt_7_188 : Jvm.Cond.code ({ cls := "java/util/ArrayList", name := "fastRemove", desc := "([Ljava/lang/Object;I)V" } : Jvm.MethodName) prog_41_method_39_code (4 : Nat) (Option.none : Option Jvm.ClassFile.FieldType) ∈ sg_T := sg_in7 188 rfl rfl
theorem kt_7_189 : Jvm.Cond.methodLink "MoonlitFloorLaw$Floor" (187 : Nat) ({ cls := "MoonlitFloorLaw$Floor", name := "relocate", desc := "()V" } : Jvm.MethodName) ∈ sg_T := sg_in7 189 rfl rfl
theorem kt_7_190 : Jvm.Cond.methodLink "MoonlitFloorLaw" (182 : Nat) ({ cls := "java/lang/StringBuilder", name := "toString", desc := "()Ljava/lang/String;" } : Jvm.MethodName) ∈ sg_T := sg_in7 190 rfl rfl
theorem kt_7_191 : Jvm.Cond.instanceMethod ({ cls := "java/lang/StringBuilder", name := "toString", desc := "()Ljava/lang/String;" } : Jvm.MethodName) ∈ sg_T := sg_in7 191 rfl rfl
theorem kt_7_192 : Jvm.Cond.selects "java/lang/StringBuilder" ({ cls := "java/lang/StringBuilder", name := "toString", desc := "()Ljava/lang/String;" } : Jvm.MethodName) ({ cls := "java/lang/StringBuilder", name := "toString", desc := "()Ljava/lang/String;" } : Jvm.MethodName) ∈ sg_T := sg_in7 192 rfl rfl
theorem kt_7_193 : Jvm.Cond.code ({ cls := "java/lang/StringBuilder", name := "toString", desc := "()Ljava/lang/String;" } : Jvm.MethodName) prog_32_method_42_code (1 : Nat) (Option.some (Jvm.ClassFile.FieldType.object "java/lang/String")) ∈ sg_T := sg_in7 193 rfl rfl
theorem kt_7_194 : Jvm.Cond.classLink "java/lang/StringBuilder" (18 : Nat) "java/lang/String" ∈ sg_T := sg_in7 194 rfl rfl
theorem kt_7_195 : Jvm.Cond.instantiable "java/lang/String" (4 : Nat) ∈ sg_T := sg_in7 195 rfl rfl
theorem kt_7_196 : Jvm.Cond.methodLink "java/lang/StringBuilder" (137 : Nat) ({ cls := "java/lang/String", name := "<init>", desc := "(Ljava/lang/StringBuilder;)V" } : Jvm.MethodName) ∈ sg_T := sg_in7 196 rfl rfl
theorem kt_7_197 : Jvm.Cond.instanceMethod ({ cls := "java/lang/String", name := "<init>", desc := "(Ljava/lang/StringBuilder;)V" } : Jvm.MethodName) ∈ sg_T := sg_in7 197 rfl rfl
theorem kt_7_198 : Jvm.Cond.code ({ cls := "java/lang/String", name := "<init>", desc := "(Ljava/lang/StringBuilder;)V" } : Jvm.MethodName) prog_31_method_53_code (2 : Nat) (Option.none : Option Jvm.ClassFile.FieldType) ∈ sg_T := sg_in7 198 rfl rfl
theorem kt_7_199 : Jvm.Cond.methodLink "java/lang/String" (489 : Nat) ({ cls := "java/lang/String", name := "<init>", desc := "(Ljava/lang/AbstractStringBuilder;Ljava/lang/Void;)V" } : Jvm.MethodName) ∈ sg_T := sg_in7 199 rfl rfl
theorem kt_7_200 : Jvm.Cond.instanceMethod ({ cls := "java/lang/String", name := "<init>", desc := "(Ljava/lang/AbstractStringBuilder;Ljava/lang/Void;)V" } : Jvm.MethodName) ∈ sg_T := sg_in7 200 rfl rfl
theorem kt_7_201 : Jvm.Cond.code ({ cls := "java/lang/String", name := "<init>", desc := "(Ljava/lang/AbstractStringBuilder;Ljava/lang/Void;)V" } : Jvm.MethodName) prog_31_method_150_code (5 : Nat) (Option.none : Option Jvm.ClassFile.FieldType) ∈ sg_T := sg_in7 201 rfl rfl
theorem kt_7_202 : Jvm.Cond.methodLink "java/lang/String" (1 : Nat) ({ cls := "java/lang/Object", name := "<init>", desc := "()V" } : Jvm.MethodName) ∈ sg_T := sg_in7 202 rfl rfl
theorem kt_7_203 : Jvm.Cond.methodLink "java/lang/String" (552 : Nat) ({ cls := "java/lang/AbstractStringBuilder", name := "getValue", desc := "()[B" } : Jvm.MethodName) ∈ sg_T := sg_in7 203 rfl rfl
theorem kt_7_204 : Jvm.Cond.instanceMethod ({ cls := "java/lang/AbstractStringBuilder", name := "getValue", desc := "()[B" } : Jvm.MethodName) ∈ sg_T := sg_in7 204 rfl rfl
theorem kt_7_205 : Jvm.Cond.sameMethod "java/lang/AbstractStringBuilder" "java/lang/AbstractStringBuilder" "getValue" "()[B" ∈ sg_T := sg_in7 205 rfl rfl
theorem kt_7_206 : Jvm.Cond.selects "java/lang/StringBuilder" ({ cls := "java/lang/AbstractStringBuilder", name := "getValue", desc := "()[B" } : Jvm.MethodName) ({ cls := "java/lang/AbstractStringBuilder", name := "getValue", desc := "()[B" } : Jvm.MethodName) ∈ sg_T := sg_in7 206 rfl rfl
theorem kt_7_207 : Jvm.Cond.code ({ cls := "java/lang/AbstractStringBuilder", name := "getValue", desc := "()[B" } : Jvm.MethodName) prog_15_method_64_code (1 : Nat) (Option.some (Jvm.ClassFile.FieldType.array Jvm.ClassFile.FieldType.byte)) ∈ sg_T := sg_in7 207 rfl rfl
theorem kt_7_208 : Jvm.Cond.methodLink "java/lang/String" (549 : Nat) ({ cls := "java/lang/AbstractStringBuilder", name := "length", desc := "()I" } : Jvm.MethodName) ∈ sg_T := sg_in7 208 rfl rfl
theorem kt_7_209 : Jvm.Cond.instanceMethod ({ cls := "java/lang/AbstractStringBuilder", name := "length", desc := "()I" } : Jvm.MethodName) ∈ sg_T := sg_in7 209 rfl rfl
theorem kt_7_210 : Jvm.Cond.sameMethod "java/lang/AbstractStringBuilder" "java/lang/AbstractStringBuilder" "length" "()I" ∈ sg_T := sg_in7 210 rfl rfl
theorem kt_7_211 : Jvm.Cond.selects "java/lang/StringBuilder" ({ cls := "java/lang/AbstractStringBuilder", name := "length", desc := "()I" } : Jvm.MethodName) ({ cls := "java/lang/StringBuilder", name := "length", desc := "()I" } : Jvm.MethodName) ∈ sg_T := sg_in7 211 rfl rfl
theorem kt_7_212 : Jvm.Cond.instanceMethod ({ cls := "java/lang/StringBuilder", name := "length", desc := "()I" } : Jvm.MethodName) ∈ sg_T := sg_in7 212 rfl rfl
theorem kt_7_213 : Jvm.Cond.code ({ cls := "java/lang/StringBuilder", name := "length", desc := "()I" } : Jvm.MethodName) prog_32_method_93_code (1 : Nat) (Option.some Jvm.ClassFile.FieldType.int) ∈ sg_T := sg_in7 213 rfl rfl
theorem kt_7_214 : Jvm.Cond.methodLink "java/lang/StringBuilder" (343 : Nat) ({ cls := "java/lang/AbstractStringBuilder", name := "length", desc := "()I" } : Jvm.MethodName) ∈ sg_T := sg_in7 214 rfl rfl
theorem kt_7_215 : Jvm.Cond.code ({ cls := "java/lang/AbstractStringBuilder", name := "length", desc := "()I" } : Jvm.MethodName) prog_15_method_6_code (1 : Nat) (Option.some Jvm.ClassFile.FieldType.int) ∈ sg_T := sg_in7 215 rfl rfl
theorem kt_7_216 : Jvm.Cond.methodLink "java/lang/String" (1047 : Nat) ({ cls := "java/lang/AbstractStringBuilder", name := "isLatin1", desc := "()Z" } : Jvm.MethodName) ∈ sg_T := sg_in7 216 rfl rfl
theorem kt_7_217 : Jvm.Cond.methodLink "java/lang/String" (54 : Nat) ({ cls := "java/util/Arrays", name := "copyOfRange", desc := "([BII)[B" } : Jvm.MethodName) ∈ sg_T := sg_in7 217 rfl rfl
theorem kt_7_218 : Jvm.Cond.static ({ cls := "java/util/Arrays", name := "copyOfRange", desc := "([BII)[B" } : Jvm.MethodName) ∈ sg_T := sg_in7 218 rfl rfl
theorem kt_7_219 : Jvm.Cond.code ({ cls := "java/util/Arrays", name := "copyOfRange", desc := "([BII)[B" } : Jvm.MethodName) prog_42_method_132_code (3 : Nat) (Option.some (Jvm.ClassFile.FieldType.array Jvm.ClassFile.FieldType.byte)) ∈ sg_T := sg_in7 219 rfl rfl
theorem kt_7_220 : Jvm.Cond.methodLink "java/util/Arrays" (339 : Nat) ({ cls := "java/util/Arrays", name := "copyOfRangeByte", desc := "([BII)[B" } : Jvm.MethodName) ∈ sg_T := sg_in7 220 rfl rfl
theorem kt_7_221 : Jvm.Cond.static ({ cls := "java/util/Arrays", name := "copyOfRangeByte", desc := "([BII)[B" } : Jvm.MethodName) ∈ sg_T := sg_in7 221 rfl rfl
theorem kt_7_222 : Jvm.Cond.code ({ cls := "java/util/Arrays", name := "copyOfRangeByte", desc := "([BII)[B" } : Jvm.MethodName) prog_42_method_133_code (5 : Nat) (Option.some (Jvm.ClassFile.FieldType.array Jvm.ClassFile.FieldType.byte)) ∈ sg_T := sg_in7 222 rfl rfl
theorem kt_7_223 : Jvm.Cond.methodLink "java/util/Arrays" (343 : Nat) ({ cls := "java/util/Arrays", name := "checkLength", desc := "(II)V" } : Jvm.MethodName) ∈ sg_T := sg_in7 223 rfl rfl
theorem kt_7_224 : Jvm.Cond.static ({ cls := "java/util/Arrays", name := "checkLength", desc := "(II)V" } : Jvm.MethodName) ∈ sg_T := sg_in7 224 rfl rfl
theorem kt_7_225 : Jvm.Cond.code ({ cls := "java/util/Arrays", name := "checkLength", desc := "(II)V" } : Jvm.MethodName) prog_42_method_131_code (2 : Nat) (Option.none : Option Jvm.ClassFile.FieldType) ∈ sg_T := sg_in7 225 rfl rfl
theorem kt_7_226 : Jvm.Cond.methodLink "java/lang/String" (1051 : Nat) ({ cls := "java/lang/StringUTF16", name := "compress", desc := "([BII)[B" } : Jvm.MethodName) ∈ sg_T := sg_in7 226 rfl rfl
theorem kt_7_227 : Jvm.Cond.static ({ cls := "java/lang/StringUTF16", name := "compress", desc := "([BII)[B" } : Jvm.MethodName) ∈ sg_T := sg_in7 227 rfl rfl
theorem kt_7_228 : Jvm.Cond.code ({ cls := "java/lang/StringUTF16", name := "compress", desc := "([BII)[B" } : Jvm.MethodName) prog_34_method_17_code (6 : Nat) (Option.some (Jvm.ClassFile.FieldType.array Jvm.ClassFile.FieldType.byte)) ∈ sg_T := sg_in7 228 rfl rfl
theorem kt_7_229 : Jvm.Cond.methodLink "java/lang/StringUTF16" (123 : Nat) ({ cls := "java/lang/StringUTF16", name := "compress", desc := "([BI[BII)I" } : Jvm.MethodName) ∈ sg_T := sg_in7 229 rfl rfl
theorem kt_7_230 : Jvm.Cond.static ({ cls := "java/lang/StringUTF16", name := "compress", desc := "([BI[BII)I" } : Jvm.MethodName) ∈ sg_T := sg_in7 230 rfl rfl
theorem kt_7_231 : Jvm.Cond.code ({ cls := "java/lang/StringUTF16", name := "compress", desc := "([BI[BII)I" } : Jvm.MethodName) prog_34_method_22_code (7 : Nat) (Option.some Jvm.ClassFile.FieldType.int) ∈ sg_T := sg_in7 231 rfl rfl
theorem kt_7_232 : Jvm.Cond.methodLink "java/lang/StringUTF16" (126 : Nat) ({ cls := "java/util/Arrays", name := "copyOfRange", desc := "([BII)[B" } : Jvm.MethodName) ∈ sg_T := sg_in7 232 rfl rfl
theorem kt_7_233 : Jvm.Cond.methodLink "java/lang/String" (47 : Nat) ({ cls := "java/lang/StringUTF16", name := "coderFromArrayLen", desc := "([BI)B" } : Jvm.MethodName) ∈ sg_T := sg_in7 233 rfl rfl
theorem kt_7_234 : Jvm.Cond.static ({ cls := "java/lang/StringUTF16", name := "coderFromArrayLen", desc := "([BI)B" } : Jvm.MethodName) ∈ sg_T := sg_in7 234 rfl rfl
theorem kt_7_235 : Jvm.Cond.code ({ cls := "java/lang/StringUTF16", name := "coderFromArrayLen", desc := "([BI)B" } : Jvm.MethodName) prog_34_method_15_code (2 : Nat) (Option.some Jvm.ClassFile.FieldType.byte) ∈ sg_T := sg_in7 235 rfl rfl
theorem kt_7_236 : Jvm.Cond.fieldLink "java/lang/String" (9 : Nat) "java/lang/String" "value" "[B" ∈ sg_T := sg_in7 236 rfl rfl
theorem kt_7_237 : Jvm.Cond.fieldLink "java/lang/String" (15 : Nat) "java/lang/String" "coder" "B" ∈ sg_T := sg_in7 237 rfl rfl
theorem kt_7_238 : Jvm.Cond.laysFinal "java/lang/String" "java/lang/String" "value" "[B" ∈ sg_T := sg_in7 238 rfl rfl
theorem kt_7_239 : Jvm.Cond.soleField "java/lang/String" "value" ∈ sg_T := sg_in7 239 rfl rfl
theorem kt_8_0 : Jvm.Cond.laysFinal "java/lang/String" "java/lang/String" "coder" "B" ∈ sg_T := sg_in8 0 rfl rfl
theorem kt_8_1 : Jvm.Cond.soleField "java/lang/String" "coder" ∈ sg_T := sg_in8 1 rfl rfl
theorem kt_8_2 : Jvm.Cond.lays "java/lang/String" "java/lang/String" "hash" "I" ∈ sg_T := sg_in8 2 rfl rfl
theorem kt_8_3 : Jvm.Cond.soleField "java/lang/String" "hash" ∈ sg_T := sg_in8 3 rfl rfl
theorem kt_8_4 : Jvm.Cond.lays "java/lang/String" "java/lang/String" "hashIsZero" "Z" ∈ sg_T := sg_in8 4 rfl rfl
theorem kt_8_5 : Jvm.Cond.soleField "java/lang/String" "hashIsZero" ∈ sg_T := sg_in8 5 rfl rfl
theorem kt_8_6 : Jvm.Cond.superclass "java/lang/String" "java/lang/Object" ∈ sg_T := sg_in8 6 rfl rfl
theorem kt_8_7 : Jvm.Cond.methodLink "MoonlitFloorLaw" (309 : Nat) ({ cls := "MoonlitFloorLaw", name := "told", desc := "(LMoonlitFloor;[ILjava/lang/CharSequence;)I" } : Jvm.MethodName) ∈ sg_T := sg_in8 7 rfl rfl
theorem kt_8_8 : Jvm.Cond.static ({ cls := "MoonlitFloorLaw", name := "told", desc := "(LMoonlitFloor;[ILjava/lang/CharSequence;)I" } : Jvm.MethodName) ∈ sg_T := sg_in8 8 rfl rfl
theorem kt_8_9 : Jvm.Cond.code ({ cls := "MoonlitFloorLaw", name := "told", desc := "(LMoonlitFloor;[ILjava/lang/CharSequence;)I" } : Jvm.MethodName) method_10_code (4 : Nat) (Option.some Jvm.ClassFile.FieldType.int) ∈ sg_T := sg_in8 9 rfl rfl
theorem kt_8_11 : Jvm.Cond.methodLink "MoonlitFloorLaw" (186 : Nat) ({ cls := "java/lang/CharSequence", name := "length", desc := "()I" } : Jvm.MethodName) ∈ sg_T := sg_in8 11 rfl rfl
theorem kt_8_15 : Jvm.Cond.selects "java/lang/String" ({ cls := "java/lang/CharSequence", name := "length", desc := "()I" } : Jvm.MethodName) ({ cls := "java/lang/String", name := "length", desc := "()I" } : Jvm.MethodName) ∈ sg_T := sg_in8 15 rfl rfl
theorem kt_8_19 : Jvm.Cond.selects "java/lang/StringBuilder" ({ cls := "java/lang/CharSequence", name := "length", desc := "()I" } : Jvm.MethodName) ({ cls := "java/lang/StringBuilder", name := "length", desc := "()I" } : Jvm.MethodName) ∈ sg_T := sg_in8 19 rfl rfl
theorem kt_8_23 : Jvm.Cond.methodLink "MoonlitFloorLaw" (191 : Nat) ({ cls := "java/lang/CharSequence", name := "charAt", desc := "(I)C" } : Jvm.MethodName) ∈ sg_T := sg_in8 23 rfl rfl
theorem kt_8_26 : Jvm.Cond.selects "java/lang/String" ({ cls := "java/lang/CharSequence", name := "charAt", desc := "(I)C" } : Jvm.MethodName) ({ cls := "java/lang/String", name := "charAt", desc := "(I)C" } : Jvm.MethodName) ∈ sg_T := sg_in8 26 rfl rfl
theorem kt_8_29 : Jvm.Cond.selects "java/lang/StringBuilder" ({ cls := "java/lang/CharSequence", name := "charAt", desc := "(I)C" } : Jvm.MethodName) ({ cls := "java/lang/StringBuilder", name := "charAt", desc := "(I)C" } : Jvm.MethodName) ∈ sg_T := sg_in8 29 rfl rfl
theorem kt_8_31 : Jvm.Cond.instanceMethod ({ cls := "java/lang/StringBuilder", name := "charAt", desc := "(I)C" } : Jvm.MethodName) ∈ sg_T := sg_in8 31 rfl rfl
theorem kt_8_33 : Jvm.Cond.code ({ cls := "java/lang/StringBuilder", name := "charAt", desc := "(I)C" } : Jvm.MethodName) prog_32_method_88_code (2 : Nat) (Option.some Jvm.ClassFile.FieldType.char) ∈ sg_T := sg_in8 33 rfl rfl
theorem kt_8_34 : Jvm.Cond.methodLink "java/lang/StringBuilder" (329 : Nat) ({ cls := "java/lang/AbstractStringBuilder", name := "charAt", desc := "(I)C" } : Jvm.MethodName) ∈ sg_T := sg_in8 34 rfl rfl
theorem kt_8_35 : Jvm.Cond.instanceMethod ({ cls := "java/lang/AbstractStringBuilder", name := "charAt", desc := "(I)C" } : Jvm.MethodName) ∈ sg_T := sg_in8 35 rfl rfl
theorem kt_8_36 : Jvm.Cond.code ({ cls := "java/lang/AbstractStringBuilder", name := "charAt", desc := "(I)C" } : Jvm.MethodName) prog_15_method_14_code (5 : Nat) (Option.some Jvm.ClassFile.FieldType.char) ∈ sg_T := sg_in8 36 rfl rfl
theorem kt_8_37 : Jvm.Cond.methodLink "java/lang/AbstractStringBuilder" (138 : Nat) ({ cls := "java/lang/Math", name := "min", desc := "(II)I" } : Jvm.MethodName) ∈ sg_T := sg_in8 37 rfl rfl
theorem kt_8_38 : Jvm.Cond.methodLink "java/lang/AbstractStringBuilder" (144 : Nat) ({ cls := "java/lang/String", name := "checkIndex", desc := "(II)V" } : Jvm.MethodName) ∈ sg_T := sg_in8 38 rfl rfl
theorem kt_8_39 : Jvm.Cond.methodLink "java/lang/AbstractStringBuilder" (148 : Nat) ({ cls := "java/lang/StringUTF16", name := "getChar", desc := "([BI)C" } : Jvm.MethodName) ∈ sg_T := sg_in8 39 rfl rfl
theorem kt_8_40 : Jvm.Cond.methodLink "MoonlitFloorLaw" (21 : Nat) ({ cls := "MoonlitFloorLaw", name := "put", desc := "(LMoonlitFloor;[II)V" } : Jvm.MethodName) ∈ sg_T := sg_in8 40 rfl rfl
theorem kt_8_41 : Jvm.Cond.static ({ cls := "MoonlitFloorLaw", name := "put", desc := "(LMoonlitFloor;[II)V" } : Jvm.MethodName) ∈ sg_T := sg_in8 41 rfl rfl
theorem kt_8_42 : Jvm.Cond.code ({ cls := "MoonlitFloorLaw", name := "put", desc := "(LMoonlitFloor;[II)V" } : Jvm.MethodName) method_2_code (4 : Nat) (Option.none : Option Jvm.ClassFile.FieldType) ∈ sg_T := sg_in8 42 rfl rfl
theorem kt_8_43 : Jvm.Cond.methodLink "MoonlitFloorLaw" (7 : Nat) ({ cls := "MoonlitFloorLaw", name := "flush", desc := "(LMoonlitFloor;[I)V" } : Jvm.MethodName) ∈ sg_T := sg_in8 43 rfl rfl
theorem kt_8_44 : Jvm.Cond.static ({ cls := "MoonlitFloorLaw", name := "flush", desc := "(LMoonlitFloor;[I)V" } : Jvm.MethodName) ∈ sg_T := sg_in8 44 rfl rfl
theorem kt_8_45 : Jvm.Cond.code ({ cls := "MoonlitFloorLaw", name := "flush", desc := "(LMoonlitFloor;[I)V" } : Jvm.MethodName) method_3_code (3 : Nat) (Option.none : Option Jvm.ClassFile.FieldType) ∈ sg_T := sg_in8 45 rfl rfl
theorem kt_8_46 : Jvm.Cond.methodLink "MoonlitFloorLaw" (13 : Nat) ({ cls := "MoonlitFloor", name := "append", desc := "(IIIII)I" } : Jvm.MethodName) ∈ sg_T := sg_in8 46 rfl rfl
theorem kt_8_47 : Jvm.Cond.instanceMethod ({ cls := "MoonlitFloor", name := "append", desc := "(IIIII)I" } : Jvm.MethodName) ∈ sg_T := sg_in8 47 rfl rfl
theorem kt_8_48 : Jvm.Cond.selects "MoonlitFloor" ({ cls := "MoonlitFloor", name := "append", desc := "(IIIII)I" } : Jvm.MethodName) ({ cls := "MoonlitFloor", name := "append", desc := "(IIIII)I" } : Jvm.MethodName) ∈ sg_T := sg_in8 48 rfl rfl
theorem kt_8_49 : Jvm.Cond.code ({ cls := "MoonlitFloor", name := "append", desc := "(IIIII)I" } : Jvm.MethodName) prog_1_method_2_code (6 : Nat) (Option.some Jvm.ClassFile.FieldType.int) ∈ sg_T := sg_in8 49 rfl rfl
theorem kt_8_50 : Jvm.Cond.methodLink "MoonlitFloor" (54 : Nat) ({ cls := "MoonlitFloor", name := "appendWord", desc := "(I)V" } : Jvm.MethodName) ∈ sg_T := sg_in8 50 rfl rfl
theorem kt_8_52 : Jvm.Cond.instanceMethod ({ cls := "MoonlitFloor", name := "appendWord", desc := "(I)V" } : Jvm.MethodName) ∈ sg_T := sg_in8 52 rfl rfl
theorem kt_8_53 : Jvm.Cond.code ({ cls := "MoonlitFloor", name := "appendWord", desc := "(I)V" } : Jvm.MethodName) prog_1_method_3_code (3 : Nat) (Option.none : Option Jvm.ClassFile.FieldType) ∈ sg_T := sg_in8 53 rfl rfl
theorem kt_8_54 : Jvm.Cond.methodLink "MoonlitFloorLaw" (195 : Nat) ({ cls := "MoonlitFloorLaw", name := "said", desc := "(LMoonlitFloor;[I)I" } : Jvm.MethodName) ∈ sg_T := sg_in8 54 rfl rfl
theorem kt_8_55 : Jvm.Cond.static ({ cls := "MoonlitFloorLaw", name := "said", desc := "(LMoonlitFloor;[I)I" } : Jvm.MethodName) ∈ sg_T := sg_in8 55 rfl rfl
theorem kt_8_56 : Jvm.Cond.code ({ cls := "MoonlitFloorLaw", name := "said", desc := "(LMoonlitFloor;[I)I" } : Jvm.MethodName) method_5_code (3 : Nat) (Option.some Jvm.ClassFile.FieldType.int) ∈ sg_T := sg_in8 56 rfl rfl
theorem kt_8_57 : Jvm.Cond.methodLink "MoonlitFloorLaw" (323 : Nat) ({ cls := "MoonlitFloorLaw", name := "isOneRow", desc := "(LMoonlitFloor;LMoonlitFloorLaw$Floor;)Z" } : Jvm.MethodName) ∈ sg_T := sg_in8 57 rfl rfl
theorem kt_8_58 : Jvm.Cond.static ({ cls := "MoonlitFloorLaw", name := "isOneRow", desc := "(LMoonlitFloor;LMoonlitFloorLaw$Floor;)Z" } : Jvm.MethodName) ∈ sg_T := sg_in8 58 rfl rfl
theorem kt_8_59 : Jvm.Cond.code ({ cls := "MoonlitFloorLaw", name := "isOneRow", desc := "(LMoonlitFloor;LMoonlitFloorLaw$Floor;)Z" } : Jvm.MethodName) method_14_code (3 : Nat) (Option.some Jvm.ClassFile.FieldType.boolean) ∈ sg_T := sg_in8 59 rfl rfl
theorem kt_8_60 : Jvm.Cond.methodLink "MoonlitFloorLaw" (387 : Nat) ({ cls := "MoonlitFloor", name := "moonRow", desc := "()I" } : Jvm.MethodName) ∈ sg_T := sg_in8 60 rfl rfl
theorem kt_8_61 : Jvm.Cond.instanceMethod ({ cls := "MoonlitFloor", name := "moonRow", desc := "()I" } : Jvm.MethodName) ∈ sg_T := sg_in8 61 rfl rfl
theorem kt_8_62 : Jvm.Cond.selects "MoonlitFloor" ({ cls := "MoonlitFloor", name := "moonRow", desc := "()I" } : Jvm.MethodName) ({ cls := "MoonlitFloor", name := "moonRow", desc := "()I" } : Jvm.MethodName) ∈ sg_T := sg_in8 62 rfl rfl
theorem kt_8_63 : Jvm.Cond.code ({ cls := "MoonlitFloor", name := "moonRow", desc := "()I" } : Jvm.MethodName) prog_1_method_14_code (1 : Nat) (Option.some Jvm.ClassFile.FieldType.int) ∈ sg_T := sg_in8 63 rfl rfl
theorem kt_8_64 : Jvm.Cond.methodLink "MoonlitFloor" (121 : Nat) ({ cls := "MoonlitFloor$World", name := "rowInMoonlight", desc := "()I" } : Jvm.MethodName) ∈ sg_T := sg_in8 64 rfl rfl
theorem kt_8_65 : Jvm.Cond.methodLink "MoonlitFloorLaw" (343 : Nat) ({ cls := "MoonlitFloorLaw", name := "isPlaced", desc := "(LMoonlitFloor;)Z" } : Jvm.MethodName) ∈ sg_T := sg_in8 65 rfl rfl
theorem kt_8_66 : Jvm.Cond.static ({ cls := "MoonlitFloorLaw", name := "isPlaced", desc := "(LMoonlitFloor;)Z" } : Jvm.MethodName) ∈ sg_T := sg_in8 66 rfl rfl
theorem kt_8_67 : Jvm.Cond.code ({ cls := "MoonlitFloorLaw", name := "isPlaced", desc := "(LMoonlitFloor;)Z" } : Jvm.MethodName) method_15_code (1 : Nat) (Option.some Jvm.ClassFile.FieldType.boolean) ∈ sg_T := sg_in8 67 rfl rfl
theorem kt_8_68 : Jvm.Cond.methodLink "MoonlitFloorLaw" (390 : Nat) ({ cls := "MoonlitFloor", name := "moonShines", desc := "()Z" } : Jvm.MethodName) ∈ sg_T := sg_in8 68 rfl rfl
theorem kt_8_69 : Jvm.Cond.instanceMethod ({ cls := "MoonlitFloor", name := "moonShines", desc := "()Z" } : Jvm.MethodName) ∈ sg_T := sg_in8 69 rfl rfl
theorem kt_8_70 : Jvm.Cond.selects "MoonlitFloor" ({ cls := "MoonlitFloor", name := "moonShines", desc := "()Z" } : Jvm.MethodName) ({ cls := "MoonlitFloor", name := "moonShines", desc := "()Z" } : Jvm.MethodName) ∈ sg_T := sg_in8 70 rfl rfl
theorem kt_8_71 : Jvm.Cond.code ({ cls := "MoonlitFloor", name := "moonShines", desc := "()Z" } : Jvm.MethodName) prog_1_method_15_code (1 : Nat) (Option.some Jvm.ClassFile.FieldType.boolean) ∈ sg_T := sg_in8 71 rfl rfl
theorem kt_8_72 : Jvm.Cond.methodLink "MoonlitFloor" (124 : Nat) ({ cls := "MoonlitFloor$World", name := "isMoonOut", desc := "()Z" } : Jvm.MethodName) ∈ sg_T := sg_in8 72 rfl rfl
theorem kt_8_73 : Jvm.Cond.methodLink "MoonlitFloorLaw" (316 : Nat) ({ cls := "MoonlitFloorLaw", name := "sees", desc := "(LMoonlitFloor;LMoonlitFloorLaw$Floor;[J)V" } : Jvm.MethodName) ∈ sg_T := sg_in8 73 rfl rfl
theorem kt_8_74 : Jvm.Cond.static ({ cls := "MoonlitFloorLaw", name := "sees", desc := "(LMoonlitFloor;LMoonlitFloorLaw$Floor;[J)V" } : Jvm.MethodName) ∈ sg_T := sg_in8 74 rfl rfl
theorem kt_8_75 : Jvm.Cond.code ({ cls := "MoonlitFloorLaw", name := "sees", desc := "(LMoonlitFloor;LMoonlitFloorLaw$Floor;[J)V" } : Jvm.MethodName) method_16_code (4 : Nat) (Option.none : Option Jvm.ClassFile.FieldType) ∈ sg_T := sg_in8 75 rfl rfl
theorem kt_8_76 : Jvm.Cond.methodLink "MoonlitFloorLaw" (393 : Nat) ({ cls := "java/util/Arrays", name := "fill", desc := "([JJ)V" } : Jvm.MethodName) ∈ sg_T := sg_in8 76 rfl rfl
theorem kt_8_77 : Jvm.Cond.static ({ cls := "java/util/Arrays", name := "fill", desc := "([JJ)V" } : Jvm.MethodName) ∈ sg_T := sg_in8 77 rfl rfl
theorem kt_8_78 : Jvm.Cond.code ({ cls := "java/util/Arrays", name := "fill", desc := "([JJ)V" } : Jvm.MethodName) prog_42_method_101_code (5 : Nat) (Option.none : Option Jvm.ClassFile.FieldType) ∈ sg_T := sg_in8 78 rfl rfl
theorem kt_8_79 : Jvm.Cond.methodLink "MoonlitFloorLaw" (277 : Nat) ({ cls := "MoonlitFloor", name := "night", desc := "()I" } : Jvm.MethodName) ∈ sg_T := sg_in8 79 rfl rfl
theorem kt_8_80 : Jvm.Cond.instanceMethod ({ cls := "MoonlitFloor", name := "night", desc := "()I" } : Jvm.MethodName) ∈ sg_T := sg_in8 80 rfl rfl
theorem kt_8_81 : Jvm.Cond.selects "MoonlitFloor" ({ cls := "MoonlitFloor", name := "night", desc := "()I" } : Jvm.MethodName) ({ cls := "MoonlitFloor", name := "night", desc := "()I" } : Jvm.MethodName) ∈ sg_T := sg_in8 81 rfl rfl
theorem kt_8_82 : Jvm.Cond.code ({ cls := "MoonlitFloor", name := "night", desc := "()I" } : Jvm.MethodName) prog_1_method_11_code (1 : Nat) (Option.some Jvm.ClassFile.FieldType.int) ∈ sg_T := sg_in8 82 rfl rfl
theorem kt_8_83 : Jvm.Cond.methodLink "MoonlitFloorLaw" (279 : Nat) ({ cls := "MoonlitFloor", name := "minute", desc := "()I" } : Jvm.MethodName) ∈ sg_T := sg_in8 83 rfl rfl
theorem kt_8_84 : Jvm.Cond.instanceMethod ({ cls := "MoonlitFloor", name := "minute", desc := "()I" } : Jvm.MethodName) ∈ sg_T := sg_in8 84 rfl rfl
theorem kt_8_85 : Jvm.Cond.selects "MoonlitFloor" ({ cls := "MoonlitFloor", name := "minute", desc := "()I" } : Jvm.MethodName) ({ cls := "MoonlitFloor", name := "minute", desc := "()I" } : Jvm.MethodName) ∈ sg_T := sg_in8 85 rfl rfl
theorem kt_8_86 : Jvm.Cond.code ({ cls := "MoonlitFloor", name := "minute", desc := "()I" } : Jvm.MethodName) prog_1_method_12_code (1 : Nat) (Option.some Jvm.ClassFile.FieldType.int) ∈ sg_T := sg_in8 86 rfl rfl
theorem kt_8_87 : Jvm.Cond.methodLink "MoonlitFloorLaw" (251 : Nat) ({ cls := "MoonlitFloor", name := "pace", desc := "()I" } : Jvm.MethodName) ∈ sg_T := sg_in8 87 rfl rfl
theorem kt_8_88 : Jvm.Cond.instanceMethod ({ cls := "MoonlitFloor", name := "pace", desc := "()I" } : Jvm.MethodName) ∈ sg_T := sg_in8 88 rfl rfl
theorem kt_8_89 : Jvm.Cond.selects "MoonlitFloor" ({ cls := "MoonlitFloor", name := "pace", desc := "()I" } : Jvm.MethodName) ({ cls := "MoonlitFloor", name := "pace", desc := "()I" } : Jvm.MethodName) ∈ sg_T := sg_in8 89 rfl rfl
theorem kt_8_90 : Jvm.Cond.code ({ cls := "MoonlitFloor", name := "pace", desc := "()I" } : Jvm.MethodName) prog_1_method_21_code (1 : Nat) (Option.some Jvm.ClassFile.FieldType.int) ∈ sg_T := sg_in8 90 rfl rfl
theorem kt_8_91 : Jvm.Cond.methodLink "MoonlitFloorLaw" (284 : Nat) ({ cls := "MoonlitFloor", name := "catTile", desc := "()I" } : Jvm.MethodName) ∈ sg_T := sg_in8 91 rfl rfl
theorem kt_8_92 : Jvm.Cond.instanceMethod ({ cls := "MoonlitFloor", name := "catTile", desc := "()I" } : Jvm.MethodName) ∈ sg_T := sg_in8 92 rfl rfl
theorem kt_8_93 : Jvm.Cond.selects "MoonlitFloor" ({ cls := "MoonlitFloor", name := "catTile", desc := "()I" } : Jvm.MethodName) ({ cls := "MoonlitFloor", name := "catTile", desc := "()I" } : Jvm.MethodName) ∈ sg_T := sg_in8 93 rfl rfl
theorem kt_8_94 : Jvm.Cond.code ({ cls := "MoonlitFloor", name := "catTile", desc := "()I" } : Jvm.MethodName) prog_1_method_33_code (1 : Nat) (Option.some Jvm.ClassFile.FieldType.int) ∈ sg_T := sg_in8 94 rfl rfl
theorem kt_8_95 : Jvm.Cond.methodLink "MoonlitFloorLaw" (209 : Nat) ({ cls := "MoonlitFloor", name := "restRemaining", desc := "()I" } : Jvm.MethodName) ∈ sg_T := sg_in8 95 rfl rfl
theorem kt_8_96 : Jvm.Cond.instanceMethod ({ cls := "MoonlitFloor", name := "restRemaining", desc := "()I" } : Jvm.MethodName) ∈ sg_T := sg_in8 96 rfl rfl
theorem kt_8_97 : Jvm.Cond.selects "MoonlitFloor" ({ cls := "MoonlitFloor", name := "restRemaining", desc := "()I" } : Jvm.MethodName) ({ cls := "MoonlitFloor", name := "restRemaining", desc := "()I" } : Jvm.MethodName) ∈ sg_T := sg_in8 97 rfl rfl
theorem kt_8_98 : Jvm.Cond.code ({ cls := "MoonlitFloor", name := "restRemaining", desc := "()I" } : Jvm.MethodName) prog_1_method_25_code (1 : Nat) (Option.some Jvm.ClassFile.FieldType.int) ∈ sg_T := sg_in8 98 rfl rfl
theorem kt_8_99 : Jvm.Cond.methodLink "MoonlitFloorLaw" (215 : Nat) ({ cls := "MoonlitFloor", name := "stepsSincePause", desc := "()I" } : Jvm.MethodName) ∈ sg_T := sg_in8 99 rfl rfl
theorem kt_8_100 : Jvm.Cond.instanceMethod ({ cls := "MoonlitFloor", name := "stepsSincePause", desc := "()I" } : Jvm.MethodName) ∈ sg_T := sg_in8 100 rfl rfl
theorem kt_8_101 : Jvm.Cond.selects "MoonlitFloor" ({ cls := "MoonlitFloor", name := "stepsSincePause", desc := "()I" } : Jvm.MethodName) ({ cls := "MoonlitFloor", name := "stepsSincePause", desc := "()I" } : Jvm.MethodName) ∈ sg_T := sg_in8 101 rfl rfl
theorem kt_8_102 : Jvm.Cond.code ({ cls := "MoonlitFloor", name := "stepsSincePause", desc := "()I" } : Jvm.MethodName) prog_1_method_26_code (1 : Nat) (Option.some Jvm.ClassFile.FieldType.int) ∈ sg_T := sg_in8 102 rfl rfl
theorem kt_8_103 : Jvm.Cond.methodLink "MoonlitFloorLaw" (245 : Nat) ({ cls := "MoonlitFloor", name := "slideCount", desc := "()I" } : Jvm.MethodName) ∈ sg_T := sg_in8 103 rfl rfl
theorem kt_8_104 : Jvm.Cond.instanceMethod ({ cls := "MoonlitFloor", name := "slideCount", desc := "()I" } : Jvm.MethodName) ∈ sg_T := sg_in8 104 rfl rfl
theorem kt_8_105 : Jvm.Cond.selects "MoonlitFloor" ({ cls := "MoonlitFloor", name := "slideCount", desc := "()I" } : Jvm.MethodName) ({ cls := "MoonlitFloor", name := "slideCount", desc := "()I" } : Jvm.MethodName) ∈ sg_T := sg_in8 105 rfl rfl
theorem kt_8_106 : Jvm.Cond.code ({ cls := "MoonlitFloor", name := "slideCount", desc := "()I" } : Jvm.MethodName) prog_1_method_35_code (1 : Nat) (Option.some Jvm.ClassFile.FieldType.int) ∈ sg_T := sg_in8 106 rfl rfl
theorem kt_8_107 : Jvm.Cond.methodLink "MoonlitFloorLaw" (227 : Nat) ({ cls := "MoonlitFloor", name := "stepsTonight", desc := "()I" } : Jvm.MethodName) ∈ sg_T := sg_in8 107 rfl rfl
theorem kt_8_108 : Jvm.Cond.instanceMethod ({ cls := "MoonlitFloor", name := "stepsTonight", desc := "()I" } : Jvm.MethodName) ∈ sg_T := sg_in8 108 rfl rfl
theorem kt_8_109 : Jvm.Cond.selects "MoonlitFloor" ({ cls := "MoonlitFloor", name := "stepsTonight", desc := "()I" } : Jvm.MethodName) ({ cls := "MoonlitFloor", name := "stepsTonight", desc := "()I" } : Jvm.MethodName) ∈ sg_T := sg_in8 109 rfl rfl
theorem kt_8_110 : Jvm.Cond.code ({ cls := "MoonlitFloor", name := "stepsTonight", desc := "()I" } : Jvm.MethodName) prog_1_method_28_code (1 : Nat) (Option.some Jvm.ClassFile.FieldType.int) ∈ sg_T := sg_in8 110 rfl rfl
theorem kt_8_111 : Jvm.Cond.methodLink "MoonlitFloorLaw" (290 : Nat) ({ cls := "MoonlitFloor", name := "recordCount", desc := "()I" } : Jvm.MethodName) ∈ sg_T := sg_in8 111 rfl rfl
theorem kt_8_112 : Jvm.Cond.instanceMethod ({ cls := "MoonlitFloor", name := "recordCount", desc := "()I" } : Jvm.MethodName) ∈ sg_T := sg_in8 112 rfl rfl
theorem kt_8_113 : Jvm.Cond.selects "MoonlitFloor" ({ cls := "MoonlitFloor", name := "recordCount", desc := "()I" } : Jvm.MethodName) ({ cls := "MoonlitFloor", name := "recordCount", desc := "()I" } : Jvm.MethodName) ∈ sg_T := sg_in8 113 rfl rfl
theorem kt_8_114 : Jvm.Cond.code ({ cls := "MoonlitFloor", name := "recordCount", desc := "()I" } : Jvm.MethodName) prog_1_method_39_code (1 : Nat) (Option.some Jvm.ClassFile.FieldType.int) ∈ sg_T := sg_in8 114 rfl rfl
theorem kt_8_116 : Jvm.Cond.methodLink "MoonlitFloorLaw" (271 : Nat) ({ cls := "MoonlitFloor", name := "recordNight", desc := "(I)I" } : Jvm.MethodName) ∈ sg_T := sg_in8 116 rfl rfl
theorem kt_8_117 : Jvm.Cond.instanceMethod ({ cls := "MoonlitFloor", name := "recordNight", desc := "(I)I" } : Jvm.MethodName) ∈ sg_T := sg_in8 117 rfl rfl
theorem kt_8_118 : Jvm.Cond.selects "MoonlitFloor" ({ cls := "MoonlitFloor", name := "recordNight", desc := "(I)I" } : Jvm.MethodName) ({ cls := "MoonlitFloor", name := "recordNight", desc := "(I)I" } : Jvm.MethodName) ∈ sg_T := sg_in8 118 rfl rfl
theorem kt_8_119 : Jvm.Cond.code ({ cls := "MoonlitFloor", name := "recordNight", desc := "(I)I" } : Jvm.MethodName) prog_1_method_40_code (2 : Nat) (Option.some Jvm.ClassFile.FieldType.int) ∈ sg_T := sg_in8 119 rfl rfl
theorem kt_8_120 : Jvm.Cond.methodLink "MoonlitFloor" (221 : Nat) ({ cls := "MoonlitFloor", name := "requireRecord", desc := "(I)V" } : Jvm.MethodName) ∈ sg_T := sg_in8 120 rfl rfl
theorem kt_8_122 : Jvm.Cond.instanceMethod ({ cls := "MoonlitFloor", name := "requireRecord", desc := "(I)V" } : Jvm.MethodName) ∈ sg_T := sg_in8 122 rfl rfl
theorem kt_8_123 : Jvm.Cond.code ({ cls := "MoonlitFloor", name := "requireRecord", desc := "(I)V" } : Jvm.MethodName) prog_1_method_71_code (2 : Nat) (Option.none : Option Jvm.ClassFile.FieldType) ∈ sg_T := sg_in8 123 rfl rfl
theorem kt_8_125 : Jvm.Cond.methodLink "MoonlitFloorLaw" (274 : Nat) ({ cls := "MoonlitFloor", name := "recordSteps", desc := "(I)I" } : Jvm.MethodName) ∈ sg_T := sg_in8 125 rfl rfl
theorem kt_8_126 : Jvm.Cond.instanceMethod ({ cls := "MoonlitFloor", name := "recordSteps", desc := "(I)I" } : Jvm.MethodName) ∈ sg_T := sg_in8 126 rfl rfl
theorem kt_8_127 : Jvm.Cond.selects "MoonlitFloor" ({ cls := "MoonlitFloor", name := "recordSteps", desc := "(I)I" } : Jvm.MethodName) ({ cls := "MoonlitFloor", name := "recordSteps", desc := "(I)I" } : Jvm.MethodName) ∈ sg_T := sg_in8 127 rfl rfl
theorem kt_8_128 : Jvm.Cond.code ({ cls := "MoonlitFloor", name := "recordSteps", desc := "(I)I" } : Jvm.MethodName) prog_1_method_41_code (2 : Nat) (Option.some Jvm.ClassFile.FieldType.int) ∈ sg_T := sg_in8 128 rfl rfl
theorem kt_8_130 : Jvm.Cond.methodLink "MoonlitFloorLaw" (263 : Nat) ({ cls := "MoonlitFloor", name := "wear", desc := "(I)I" } : Jvm.MethodName) ∈ sg_T := sg_in8 130 rfl rfl
theorem kt_8_131 : Jvm.Cond.instanceMethod ({ cls := "MoonlitFloor", name := "wear", desc := "(I)I" } : Jvm.MethodName) ∈ sg_T := sg_in8 131 rfl rfl
theorem kt_8_132 : Jvm.Cond.selects "MoonlitFloor" ({ cls := "MoonlitFloor", name := "wear", desc := "(I)I" } : Jvm.MethodName) ({ cls := "MoonlitFloor", name := "wear", desc := "(I)I" } : Jvm.MethodName) ∈ sg_T := sg_in8 132 rfl rfl
theorem kt_8_133 : Jvm.Cond.code ({ cls := "MoonlitFloor", name := "wear", desc := "(I)I" } : Jvm.MethodName) prog_1_method_32_code (2 : Nat) (Option.some Jvm.ClassFile.FieldType.int) ∈ sg_T := sg_in8 133 rfl rfl
theorem kt_8_136 : Jvm.Cond.methodLink "MoonlitFloorLaw" (257 : Nat) ({ cls := "MoonlitFloor", name := "hasRug", desc := "(I)Z" } : Jvm.MethodName) ∈ sg_T := sg_in8 136 rfl rfl
theorem kt_8_137 : Jvm.Cond.instanceMethod ({ cls := "MoonlitFloor", name := "hasRug", desc := "(I)Z" } : Jvm.MethodName) ∈ sg_T := sg_in8 137 rfl rfl
theorem kt_8_138 : Jvm.Cond.selects "MoonlitFloor" ({ cls := "MoonlitFloor", name := "hasRug", desc := "(I)Z" } : Jvm.MethodName) ({ cls := "MoonlitFloor", name := "hasRug", desc := "(I)Z" } : Jvm.MethodName) ∈ sg_T := sg_in8 138 rfl rfl
theorem kt_8_139 : Jvm.Cond.code ({ cls := "MoonlitFloor", name := "hasRug", desc := "(I)Z" } : Jvm.MethodName) prog_1_method_34_code (2 : Nat) (Option.some Jvm.ClassFile.FieldType.boolean) ∈ sg_T := sg_in8 139 rfl rfl
theorem kt_8_140 : Jvm.Cond.methodLink "MoonlitFloorLaw" (381 : Nat) ({ cls := "java/util/Arrays", name := "equals", desc := "([J[J)Z" } : Jvm.MethodName) ∈ sg_T := sg_in8 140 rfl rfl
theorem kt_8_141 : Jvm.Cond.static ({ cls := "java/util/Arrays", name := "equals", desc := "([J[J)Z" } : Jvm.MethodName) ∈ sg_T := sg_in8 141 rfl rfl
theorem kt_8_142 : Jvm.Cond.code ({ cls := "java/util/Arrays", name := "equals", desc := "([J[J)Z" } : Jvm.MethodName) prog_42_method_81_code (3 : Nat) (Option.some Jvm.ClassFile.FieldType.boolean) ∈ sg_T := sg_in8 142 rfl rfl
theorem kt_8_143 : Jvm.Cond.methodLink "java/util/Arrays" (245 : Nat) ({ cls := "jdk/internal/util/ArraysSupport", name := "mismatch", desc := "([J[JI)I" } : Jvm.MethodName) ∈ sg_T := sg_in8 143 rfl rfl
theorem kt_8_144 : Jvm.Cond.static ({ cls := "jdk/internal/util/ArraysSupport", name := "mismatch", desc := "([J[JI)I" } : Jvm.MethodName) ∈ sg_T := sg_in8 144 rfl rfl
theorem kt_8_145 : Jvm.Cond.code ({ cls := "jdk/internal/util/ArraysSupport", name := "mismatch", desc := "([J[JI)I" } : Jvm.MethodName) prog_50_method_23_code (4 : Nat) (Option.some Jvm.ClassFile.FieldType.int) ∈ sg_T := sg_in8 145 rfl rfl
theorem kt_8_146 : Jvm.Cond.fieldLink "jdk/internal/util/ArraysSupport" (170 : Nat) "jdk/internal/misc/Unsafe" "ARRAY_LONG_BASE_OFFSET" "I" ∈ sg_T := sg_in8 146 rfl rfl
theorem kt_8_148 : Jvm.Cond.fieldLink "jdk/internal/util/ArraysSupport" (20 : Nat) "jdk/internal/util/ArraysSupport" "LOG2_ARRAY_LONG_INDEX_SCALE" "I" ∈ sg_T := sg_in8 148 rfl rfl
theorem kt_8_150 : Jvm.Cond.methodLink "jdk/internal/util/ArraysSupport" (122 : Nat) ({ cls := "jdk/internal/util/ArraysSupport", name := "vectorizedMismatch", desc := "(Ljava/lang/Object;JLjava/lang/Object;JII)I" } : Jvm.MethodName) ∈ sg_T := sg_in8 150 rfl rfl
theorem kt_8_151 : Jvm.Cond.static ({ cls := "jdk/internal/util/ArraysSupport", name := "vectorizedMismatch", desc := "(Ljava/lang/Object;JLjava/lang/Object;JII)I" } : Jvm.MethodName) ∈ sg_T := sg_in8 151 rfl rfl
theorem kt_8_152 : Jvm.Cond.code ({ cls := "jdk/internal/util/ArraysSupport", name := "vectorizedMismatch", desc := "(Ljava/lang/Object;JLjava/lang/Object;JII)I" } : Jvm.MethodName) prog_50_method_3_code (19 : Nat) (Option.some Jvm.ClassFile.FieldType.int) ∈ sg_T := sg_in8 152 rfl rfl
theorem kt_8_153 : Jvm.Cond.fieldLink "jdk/internal/util/ArraysSupport" (26 : Nat) "jdk/internal/util/ArraysSupport" "U" "Ljdk/internal/misc/Unsafe;" ∈ sg_T := sg_in8 153 rfl rfl
theorem kt_8_155 : Jvm.Cond.methodLink "jdk/internal/util/ArraysSupport" (30 : Nat) ({ cls := "jdk/internal/misc/Unsafe", name := "getLongUnaligned", desc := "(Ljava/lang/Object;J)J" } : Jvm.MethodName) ∈ sg_T := sg_in8 155 rfl rfl
theorem kt_8_156 : Jvm.Cond.instanceMethod ({ cls := "jdk/internal/misc/Unsafe", name := "getLongUnaligned", desc := "(Ljava/lang/Object;J)J" } : Jvm.MethodName) ∈ sg_T := sg_in8 156 rfl rfl
theorem kt_8_157 : Jvm.Cond.selects "jdk/internal/misc/Unsafe" ({ cls := "jdk/internal/misc/Unsafe", name := "getLongUnaligned", desc := "(Ljava/lang/Object;J)J" } : Jvm.MethodName) ({ cls := "jdk/internal/misc/Unsafe", name := "getLongUnaligned", desc := "(Ljava/lang/Object;J)J" } : Jvm.MethodName) ∈ sg_T := sg_in8 157 rfl rfl
theorem kt_8_158 : Jvm.Cond.code ({ cls := "jdk/internal/misc/Unsafe", name := "getLongUnaligned", desc := "(Ljava/lang/Object;J)J" } : Jvm.MethodName) prog_48_method_334_code (4 : Nat) (Option.some Jvm.ClassFile.FieldType.long) ∈ sg_T := sg_in8 158 rfl rfl
theorem kt_8_160 : Jvm.Cond.methodLink "jdk/internal/misc/Unsafe" (27 : Nat) ({ cls := "jdk/internal/misc/Unsafe", name := "getLong", desc := "(Ljava/lang/Object;J)J" } : Jvm.MethodName) ∈ sg_T := sg_in8 160 rfl rfl
theorem kt_8_161 : Jvm.Cond.instanceMethod ({ cls := "jdk/internal/misc/Unsafe", name := "getLong", desc := "(Ljava/lang/Object;J)J" } : Jvm.MethodName) ∈ sg_T := sg_in8 161 rfl rfl
theorem kt_8_162 : Jvm.Cond.selects "jdk/internal/misc/Unsafe" ({ cls := "jdk/internal/misc/Unsafe", name := "getLong", desc := "(Ljava/lang/Object;J)J" } : Jvm.MethodName) ({ cls := "jdk/internal/misc/Unsafe", name := "getLong", desc := "(Ljava/lang/Object;J)J" } : Jvm.MethodName) ∈ sg_T := sg_in8 162 rfl rfl
theorem kt_8_163 : Jvm.Cond.native ({ cls := "jdk/internal/misc/Unsafe", name := "getLong", desc := "(Ljava/lang/Object;J)J" } : Jvm.MethodName) ∈ sg_T := sg_in8 163 rfl rfl
theorem kt_8_165 : Jvm.Cond.methodLink "jdk/internal/misc/Unsafe" (17 : Nat) ({ cls := "jdk/internal/misc/Unsafe", name := "getInt", desc := "(Ljava/lang/Object;J)I" } : Jvm.MethodName) ∈ sg_T := sg_in8 165 rfl rfl
theorem kt_8_166 : Jvm.Cond.instanceMethod ({ cls := "jdk/internal/misc/Unsafe", name := "getInt", desc := "(Ljava/lang/Object;J)I" } : Jvm.MethodName) ∈ sg_T := sg_in8 166 rfl rfl
theorem kt_8_167 : Jvm.Cond.selects "jdk/internal/misc/Unsafe" ({ cls := "jdk/internal/misc/Unsafe", name := "getInt", desc := "(Ljava/lang/Object;J)I" } : Jvm.MethodName) ({ cls := "jdk/internal/misc/Unsafe", name := "getInt", desc := "(Ljava/lang/Object;J)I" } : Jvm.MethodName) ∈ sg_T := sg_in8 167 rfl rfl
theorem kt_8_168 : Jvm.Cond.native ({ cls := "jdk/internal/misc/Unsafe", name := "getInt", desc := "(Ljava/lang/Object;J)I" } : Jvm.MethodName) ∈ sg_T := sg_in8 168 rfl rfl
theorem kt_8_170 : Jvm.Cond.methodLink "jdk/internal/misc/Unsafe" (698 : Nat) ({ cls := "jdk/internal/misc/Unsafe", name := "makeLong", desc := "(II)J" } : Jvm.MethodName) ∈ sg_T := sg_in8 170 rfl rfl
theorem kt_8_171 : Jvm.Cond.static ({ cls := "jdk/internal/misc/Unsafe", name := "makeLong", desc := "(II)J" } : Jvm.MethodName) ∈ sg_T := sg_in8 171 rfl rfl
theorem kt_8_172 : Jvm.Cond.code ({ cls := "jdk/internal/misc/Unsafe", name := "makeLong", desc := "(II)J" } : Jvm.MethodName) prog_48_method_353_code (2 : Nat) (Option.some Jvm.ClassFile.FieldType.long) ∈ sg_T := sg_in8 172 rfl rfl
theorem kt_8_173 : Jvm.Cond.methodLink "jdk/internal/misc/Unsafe" (791 : Nat) ({ cls := "jdk/internal/misc/Unsafe", name := "toUnsignedLong", desc := "(I)J" } : Jvm.MethodName) ∈ sg_T := sg_in8 173 rfl rfl
theorem kt_8_174 : Jvm.Cond.static ({ cls := "jdk/internal/misc/Unsafe", name := "toUnsignedLong", desc := "(I)J" } : Jvm.MethodName) ∈ sg_T := sg_in8 174 rfl rfl
theorem kt_8_175 : Jvm.Cond.code ({ cls := "jdk/internal/misc/Unsafe", name := "toUnsignedLong", desc := "(I)J" } : Jvm.MethodName) prog_48_method_370_code (1 : Nat) (Option.some Jvm.ClassFile.FieldType.long) ∈ sg_T := sg_in8 175 rfl rfl
theorem kt_8_177 : Jvm.Cond.methodLink "jdk/internal/misc/Unsafe" (784 : Nat) ({ cls := "jdk/internal/misc/Unsafe", name := "pickPos", desc := "(II)I" } : Jvm.MethodName) ∈ sg_T := sg_in8 177 rfl rfl
theorem kt_8_178 : Jvm.Cond.static ({ cls := "jdk/internal/misc/Unsafe", name := "pickPos", desc := "(II)I" } : Jvm.MethodName) ∈ sg_T := sg_in8 178 rfl rfl
theorem kt_8_179 : Jvm.Cond.code ({ cls := "jdk/internal/misc/Unsafe", name := "pickPos", desc := "(II)I" } : Jvm.MethodName) prog_48_method_350_code (2 : Nat) (Option.some Jvm.ClassFile.FieldType.int) ∈ sg_T := sg_in8 179 rfl rfl
theorem kt_8_180 : Jvm.Cond.fieldLink "jdk/internal/misc/Unsafe" (351 : Nat) "jdk/internal/misc/UnsafeConstants" "BIG_ENDIAN" "Z" ∈ sg_T := sg_in8 180 rfl rfl
theorem kt_8_182 : Jvm.Cond.methodLink "jdk/internal/misc/Unsafe" (47 : Nat) ({ cls := "jdk/internal/misc/Unsafe", name := "getShort", desc := "(Ljava/lang/Object;J)S" } : Jvm.MethodName) ∈ sg_T := sg_in8 182 rfl rfl
theorem kt_8_183 : Jvm.Cond.instanceMethod ({ cls := "jdk/internal/misc/Unsafe", name := "getShort", desc := "(Ljava/lang/Object;J)S" } : Jvm.MethodName) ∈ sg_T := sg_in8 183 rfl rfl
theorem kt_8_184 : Jvm.Cond.selects "jdk/internal/misc/Unsafe" ({ cls := "jdk/internal/misc/Unsafe", name := "getShort", desc := "(Ljava/lang/Object;J)S" } : Jvm.MethodName) ({ cls := "jdk/internal/misc/Unsafe", name := "getShort", desc := "(Ljava/lang/Object;J)S" } : Jvm.MethodName) ∈ sg_T := sg_in8 184 rfl rfl
theorem kt_8_185 : Jvm.Cond.native ({ cls := "jdk/internal/misc/Unsafe", name := "getShort", desc := "(Ljava/lang/Object;J)S" } : Jvm.MethodName) ∈ sg_T := sg_in8 185 rfl rfl
theorem kt_8_188 : Jvm.Cond.methodLink "jdk/internal/misc/Unsafe" (704 : Nat) ({ cls := "jdk/internal/misc/Unsafe", name := "makeLong", desc := "(SSSS)J" } : Jvm.MethodName) ∈ sg_T := sg_in8 188 rfl rfl
theorem kt_8_189 : Jvm.Cond.static ({ cls := "jdk/internal/misc/Unsafe", name := "makeLong", desc := "(SSSS)J" } : Jvm.MethodName) ∈ sg_T := sg_in8 189 rfl rfl
theorem kt_8_190 : Jvm.Cond.code ({ cls := "jdk/internal/misc/Unsafe", name := "makeLong", desc := "(SSSS)J" } : Jvm.MethodName) prog_48_method_352_code (4 : Nat) (Option.some Jvm.ClassFile.FieldType.long) ∈ sg_T := sg_in8 190 rfl rfl
theorem kt_8_191 : Jvm.Cond.methodLink "jdk/internal/misc/Unsafe" (788 : Nat) ({ cls := "jdk/internal/misc/Unsafe", name := "toUnsignedLong", desc := "(S)J" } : Jvm.MethodName) ∈ sg_T := sg_in8 191 rfl rfl
theorem kt_8_192 : Jvm.Cond.static ({ cls := "jdk/internal/misc/Unsafe", name := "toUnsignedLong", desc := "(S)J" } : Jvm.MethodName) ∈ sg_T := sg_in8 192 rfl rfl
theorem kt_8_193 : Jvm.Cond.code ({ cls := "jdk/internal/misc/Unsafe", name := "toUnsignedLong", desc := "(S)J" } : Jvm.MethodName) prog_48_method_369_code (1 : Nat) (Option.some Jvm.ClassFile.FieldType.long) ∈ sg_T := sg_in8 193 rfl rfl
theorem kt_8_195 : Jvm.Cond.methodLink "jdk/internal/misc/Unsafe" (39 : Nat) ({ cls := "jdk/internal/misc/Unsafe", name := "getByte", desc := "(Ljava/lang/Object;J)B" } : Jvm.MethodName) ∈ sg_T := sg_in8 195 rfl rfl
theorem kt_8_196 : Jvm.Cond.instanceMethod ({ cls := "jdk/internal/misc/Unsafe", name := "getByte", desc := "(Ljava/lang/Object;J)B" } : Jvm.MethodName) ∈ sg_T := sg_in8 196 rfl rfl
theorem kt_8_197 : Jvm.Cond.selects "jdk/internal/misc/Unsafe" ({ cls := "jdk/internal/misc/Unsafe", name := "getByte", desc := "(Ljava/lang/Object;J)B" } : Jvm.MethodName) ({ cls := "jdk/internal/misc/Unsafe", name := "getByte", desc := "(Ljava/lang/Object;J)B" } : Jvm.MethodName) ∈ sg_T := sg_in8 197 rfl rfl
theorem kt_8_198 : Jvm.Cond.native ({ cls := "jdk/internal/misc/Unsafe", name := "getByte", desc := "(Ljava/lang/Object;J)B" } : Jvm.MethodName) ∈ sg_T := sg_in8 198 rfl rfl
theorem kt_8_200 : Jvm.Cond.methodLink "jdk/internal/misc/Unsafe" (709 : Nat) ({ cls := "jdk/internal/misc/Unsafe", name := "makeLong", desc := "(BBBBBBBB)J" } : Jvm.MethodName) ∈ sg_T := sg_in8 200 rfl rfl
theorem kt_8_201 : Jvm.Cond.static ({ cls := "jdk/internal/misc/Unsafe", name := "makeLong", desc := "(BBBBBBBB)J" } : Jvm.MethodName) ∈ sg_T := sg_in8 201 rfl rfl
theorem kt_8_202 : Jvm.Cond.code ({ cls := "jdk/internal/misc/Unsafe", name := "makeLong", desc := "(BBBBBBBB)J" } : Jvm.MethodName) prog_48_method_351_code (8 : Nat) (Option.some Jvm.ClassFile.FieldType.long) ∈ sg_T := sg_in8 202 rfl rfl
theorem kt_8_203 : Jvm.Cond.methodLink "jdk/internal/misc/Unsafe" (781 : Nat) ({ cls := "jdk/internal/misc/Unsafe", name := "toUnsignedLong", desc := "(B)J" } : Jvm.MethodName) ∈ sg_T := sg_in8 203 rfl rfl
theorem kt_8_204 : Jvm.Cond.static ({ cls := "jdk/internal/misc/Unsafe", name := "toUnsignedLong", desc := "(B)J" } : Jvm.MethodName) ∈ sg_T := sg_in8 204 rfl rfl
theorem kt_8_205 : Jvm.Cond.code ({ cls := "jdk/internal/misc/Unsafe", name := "toUnsignedLong", desc := "(B)J" } : Jvm.MethodName) prog_48_method_368_code (1 : Nat) (Option.some Jvm.ClassFile.FieldType.long) ∈ sg_T := sg_in8 205 rfl rfl
theorem kt_8_207 : Jvm.Cond.fieldLink "jdk/internal/util/ArraysSupport" (36 : Nat) "jdk/internal/util/ArraysSupport" "BIG_ENDIAN" "Z" ∈ sg_T := sg_in8 207 rfl rfl
theorem kt_8_209 : Jvm.Cond.methodLink "jdk/internal/util/ArraysSupport" (40 : Nat) ({ cls := "java/lang/Long", name := "numberOfLeadingZeros", desc := "(J)I" } : Jvm.MethodName) ∈ sg_T := sg_in8 209 rfl rfl
theorem kt_8_210 : Jvm.Cond.static ({ cls := "java/lang/Long", name := "numberOfLeadingZeros", desc := "(J)I" } : Jvm.MethodName) ∈ sg_T := sg_in8 210 rfl rfl
theorem kt_8_211 : Jvm.Cond.code ({ cls := "java/lang/Long", name := "numberOfLeadingZeros", desc := "(J)I" } : Jvm.MethodName) prog_27_method_48_code (3 : Nat) (Option.some Jvm.ClassFile.FieldType.int) ∈ sg_T := sg_in8 211 rfl rfl
theorem kt_8_212 : Jvm.Cond.methodLink "java/lang/Long" (308 : Nat) ({ cls := "java/lang/Integer", name := "numberOfLeadingZeros", desc := "(I)I" } : Jvm.MethodName) ∈ sg_T := sg_in8 212 rfl rfl
theorem kt_8_213 : Jvm.Cond.static ({ cls := "java/lang/Integer", name := "numberOfLeadingZeros", desc := "(I)I" } : Jvm.MethodName) ∈ sg_T := sg_in8 213 rfl rfl
theorem kt_8_214 : Jvm.Cond.code ({ cls := "java/lang/Integer", name := "numberOfLeadingZeros", desc := "(I)I" } : Jvm.MethodName) prog_25_method_47_code (2 : Nat) (Option.some Jvm.ClassFile.FieldType.int) ∈ sg_T := sg_in8 214 rfl rfl
theorem kt_8_215 : Jvm.Cond.constant "java/lang/Integer" (264 : Nat) (65536 : Int32) ∈ sg_T := sg_in8 215 rfl rfl
theorem kt_8_216 : Jvm.Cond.fieldLink "jdk/internal/util/ArraysSupport" (46 : Nat) "jdk/internal/util/ArraysSupport" "LOG2_BYTE_BIT_SIZE" "I" ∈ sg_T := sg_in8 216 rfl rfl
theorem kt_8_218 : Jvm.Cond.methodLink "jdk/internal/util/ArraysSupport" (49 : Nat) ({ cls := "java/lang/Long", name := "numberOfTrailingZeros", desc := "(J)I" } : Jvm.MethodName) ∈ sg_T := sg_in8 218 rfl rfl
theorem kt_8_219 : Jvm.Cond.static ({ cls := "java/lang/Long", name := "numberOfTrailingZeros", desc := "(J)I" } : Jvm.MethodName) ∈ sg_T := sg_in8 219 rfl rfl
theorem kt_8_220 : Jvm.Cond.code ({ cls := "java/lang/Long", name := "numberOfTrailingZeros", desc := "(J)I" } : Jvm.MethodName) prog_27_method_49_code (3 : Nat) (Option.some Jvm.ClassFile.FieldType.int) ∈ sg_T := sg_in8 220 rfl rfl
theorem kt_8_221 : Jvm.Cond.methodLink "java/lang/Long" (311 : Nat) ({ cls := "java/lang/Integer", name := "numberOfTrailingZeros", desc := "(I)I" } : Jvm.MethodName) ∈ sg_T := sg_in8 221 rfl rfl
theorem kt_8_222 : Jvm.Cond.static ({ cls := "java/lang/Integer", name := "numberOfTrailingZeros", desc := "(I)I" } : Jvm.MethodName) ∈ sg_T := sg_in8 222 rfl rfl
theorem kt_8_223 : Jvm.Cond.code ({ cls := "java/lang/Integer", name := "numberOfTrailingZeros", desc := "(I)I" } : Jvm.MethodName) prog_25_method_48_code (2 : Nat) (Option.some Jvm.ClassFile.FieldType.int) ∈ sg_T := sg_in8 223 rfl rfl
theorem kt_8_224 : Jvm.Cond.fieldLink "jdk/internal/util/ArraysSupport" (51 : Nat) "jdk/internal/util/ArraysSupport" "LOG2_ARRAY_INT_INDEX_SCALE" "I" ∈ sg_T := sg_in8 224 rfl rfl
theorem kt_8_226 : Jvm.Cond.methodLink "jdk/internal/util/ArraysSupport" (54 : Nat) ({ cls := "jdk/internal/misc/Unsafe", name := "getIntUnaligned", desc := "(Ljava/lang/Object;J)I" } : Jvm.MethodName) ∈ sg_T := sg_in8 226 rfl rfl
theorem kt_8_227 : Jvm.Cond.instanceMethod ({ cls := "jdk/internal/misc/Unsafe", name := "getIntUnaligned", desc := "(Ljava/lang/Object;J)I" } : Jvm.MethodName) ∈ sg_T := sg_in8 227 rfl rfl
theorem kt_8_228 : Jvm.Cond.selects "jdk/internal/misc/Unsafe" ({ cls := "jdk/internal/misc/Unsafe", name := "getIntUnaligned", desc := "(Ljava/lang/Object;J)I" } : Jvm.MethodName) ({ cls := "jdk/internal/misc/Unsafe", name := "getIntUnaligned", desc := "(Ljava/lang/Object;J)I" } : Jvm.MethodName) ∈ sg_T := sg_in8 228 rfl rfl
theorem kt_8_229 : Jvm.Cond.code ({ cls := "jdk/internal/misc/Unsafe", name := "getIntUnaligned", desc := "(Ljava/lang/Object;J)I" } : Jvm.MethodName) prog_48_method_336_code (4 : Nat) (Option.some Jvm.ClassFile.FieldType.int) ∈ sg_T := sg_in8 229 rfl rfl
theorem kt_8_230 : Jvm.Cond.methodLink "jdk/internal/misc/Unsafe" (719 : Nat) ({ cls := "jdk/internal/misc/Unsafe", name := "makeInt", desc := "(SS)I" } : Jvm.MethodName) ∈ sg_T := sg_in8 230 rfl rfl
theorem kt_8_231 : Jvm.Cond.static ({ cls := "jdk/internal/misc/Unsafe", name := "makeInt", desc := "(SS)I" } : Jvm.MethodName) ∈ sg_T := sg_in8 231 rfl rfl
theorem kt_8_232 : Jvm.Cond.code ({ cls := "jdk/internal/misc/Unsafe", name := "makeInt", desc := "(SS)I" } : Jvm.MethodName) prog_48_method_354_code (2 : Nat) (Option.some Jvm.ClassFile.FieldType.int) ∈ sg_T := sg_in8 232 rfl rfl
theorem kt_8_233 : Jvm.Cond.methodLink "jdk/internal/misc/Unsafe" (792 : Nat) ({ cls := "jdk/internal/misc/Unsafe", name := "toUnsignedInt", desc := "(S)I" } : Jvm.MethodName) ∈ sg_T := sg_in8 233 rfl rfl
theorem kt_8_234 : Jvm.Cond.static ({ cls := "jdk/internal/misc/Unsafe", name := "toUnsignedInt", desc := "(S)I" } : Jvm.MethodName) ∈ sg_T := sg_in8 234 rfl rfl
theorem kt_8_235 : Jvm.Cond.code ({ cls := "jdk/internal/misc/Unsafe", name := "toUnsignedInt", desc := "(S)I" } : Jvm.MethodName) prog_48_method_367_code (1 : Nat) (Option.some Jvm.ClassFile.FieldType.int) ∈ sg_T := sg_in8 235 rfl rfl
theorem kt_8_236 : Jvm.Cond.constant "jdk/internal/misc/Unsafe" (374 : Nat) (65535 : Int32) ∈ sg_T := sg_in8 236 rfl rfl
theorem kt_8_237 : Jvm.Cond.methodLink "jdk/internal/misc/Unsafe" (723 : Nat) ({ cls := "jdk/internal/misc/Unsafe", name := "makeInt", desc := "(BBBB)I" } : Jvm.MethodName) ∈ sg_T := sg_in8 237 rfl rfl
theorem kt_8_238 : Jvm.Cond.static ({ cls := "jdk/internal/misc/Unsafe", name := "makeInt", desc := "(BBBB)I" } : Jvm.MethodName) ∈ sg_T := sg_in8 238 rfl rfl
theorem kt_8_239 : Jvm.Cond.code ({ cls := "jdk/internal/misc/Unsafe", name := "makeInt", desc := "(BBBB)I" } : Jvm.MethodName) prog_48_method_355_code (4 : Nat) (Option.some Jvm.ClassFile.FieldType.int) ∈ sg_T := sg_in8 239 rfl rfl
theorem kt_9_0 : Jvm.Cond.methodLink "jdk/internal/misc/Unsafe" (796 : Nat) ({ cls := "jdk/internal/misc/Unsafe", name := "toUnsignedInt", desc := "(B)I" } : Jvm.MethodName) ∈ sg_T := sg_in9 0 rfl rfl
theorem kt_9_1 : Jvm.Cond.static ({ cls := "jdk/internal/misc/Unsafe", name := "toUnsignedInt", desc := "(B)I" } : Jvm.MethodName) ∈ sg_T := sg_in9 1 rfl rfl
theorem kt_9_2 : Jvm.Cond.code ({ cls := "jdk/internal/misc/Unsafe", name := "toUnsignedInt", desc := "(B)I" } : Jvm.MethodName) prog_48_method_366_code (1 : Nat) (Option.some Jvm.ClassFile.FieldType.int) ∈ sg_T := sg_in9 2 rfl rfl
theorem kt_9_3 : Jvm.Cond.methodLink "jdk/internal/util/ArraysSupport" (58 : Nat) ({ cls := "java/lang/Integer", name := "numberOfLeadingZeros", desc := "(I)I" } : Jvm.MethodName) ∈ sg_T := sg_in9 3 rfl rfl
theorem kt_9_4 : Jvm.Cond.methodLink "jdk/internal/util/ArraysSupport" (11 : Nat) ({ cls := "java/lang/Integer", name := "numberOfTrailingZeros", desc := "(I)I" } : Jvm.MethodName) ∈ sg_T := sg_in9 4 rfl rfl
theorem kt_9_5 : Jvm.Cond.arrayClass Jvm.ClassFile.FieldType.long ∈ sg_T := sg_in9 5 rfl rfl
theorem kt_9_6 : Jvm.Cond.sameMethod "java/lang/Throwable" "java/lang/Throwable" "fillInStackTrace" "(I)Ljava/lang/Throwable;" ∈ sg_T := sg_in9 6 rfl rfl
theorem kt_9_7 : Jvm.Cond.sameMethod "java/lang/AbstractStringBuilder" "java/lang/AbstractStringBuilder" "appendNull" "()Ljava/lang/AbstractStringBuilder;" ∈ sg_T := sg_in9 7 rfl rfl
theorem kt_9_8 : Jvm.Cond.sameMethod "java/lang/AbstractStringBuilder" "java/lang/AbstractStringBuilder" "ensureCapacityInternal" "(I)V" ∈ sg_T := sg_in9 8 rfl rfl
theorem kt_9_9 : Jvm.Cond.sameMethod "java/lang/AbstractStringBuilder" "java/lang/AbstractStringBuilder" "newCapacity" "(I)I" ∈ sg_T := sg_in9 9 rfl rfl
theorem kt_9_10 : Jvm.Cond.sameMethod "java/lang/AbstractStringBuilder" "java/lang/AbstractStringBuilder" "putStringAt" "(ILjava/lang/String;)V" ∈ sg_T := sg_in9 10 rfl rfl
theorem kt_9_11 : Jvm.Cond.sameMethod "java/lang/AbstractStringBuilder" "java/lang/AbstractStringBuilder" "inflateIfNeededFor" "(Ljava/lang/String;)V" ∈ sg_T := sg_in9 11 rfl rfl
theorem kt_9_12 : Jvm.Cond.sameMethod "java/lang/AbstractStringBuilder" "java/lang/AbstractStringBuilder" "inflate" "()V" ∈ sg_T := sg_in9 12 rfl rfl
theorem kt_9_13 : Jvm.Cond.sameMethod "java/lang/AbstractStringBuilder" "java/lang/AbstractStringBuilder" "append" "(I)Ljava/lang/AbstractStringBuilder;" ∈ sg_T := sg_in9 13 rfl rfl
theorem kt_9_14 : Jvm.Cond.sameMethod "java/lang/AbstractStringBuilder" "java/lang/AbstractStringBuilder" "append" "(C)Ljava/lang/AbstractStringBuilder;" ∈ sg_T := sg_in9 14 rfl rfl
theorem kt_9_15 : Jvm.Cond.sameMethod "java/lang/AbstractStringBuilder" "java/lang/AbstractStringBuilder" "charAt" "(I)C" ∈ sg_T := sg_in9 15 rfl rfl
theorem kt_9_34 : Jvm.Cond.sameMethod "[Ljava/lang/Object;" "java/lang/Object" "getClass" "()Ljava/lang/Class;" ∈ sg_T := sg_in9 34 rfl rfl
theorem kt_9_35 : Jvm.Cond.selects "[Ljava/lang/Object;" ({ cls := "java/lang/Object", name := "getClass", desc := "()Ljava/lang/Class;" } : Jvm.MethodName) ({ cls := "java/lang/Object", name := "getClass", desc := "()Ljava/lang/Class;" } : Jvm.MethodName) ∈ sg_T := sg_in9 35 rfl rfl
theorem kt_9_44 : Jvm.Cond.fieldLink "MoonlitFloor$Tokens" (70 : Nat) "MoonlitFloor$Sign" "text" "Ljava/lang/String;" ∈ sg_T := sg_in9 44 rfl rfl
theorem kt_9_45 : Jvm.Cond.fieldLink "MoonlitFloor$SetupReader" (158 : Nat) "MoonlitFloor$Sign" "event" "Z" ∈ sg_T := sg_in9 45 rfl rfl
theorem kt_9_46 : Jvm.Cond.fieldLink "MoonlitFloor$SetupReader" (161 : Nat) "MoonlitFloor$Sign" "setting" "Z" ∈ sg_T := sg_in9 46 rfl rfl
theorem kt_9_47 : Jvm.Cond.fieldLink "java/lang/Enum" (7 : Nat) "java/lang/Enum" "ordinal" "I" ∈ sg_T := sg_in9 47 rfl rfl
theorem kt_0_0 : Cond.selects "java/lang/Throwable" ⟨"java/lang/Throwable", "fillInStackTrace", "(I)Ljava/lang/Throwable;"⟩ ⟨"java/lang/Throwable", "fillInStackTrace", "(I)Ljava/lang/Throwable;"⟩ ∈ sg_T := sg_in0 0 rfl rfl
theorem kt_0_1 : Cond.selects "MoonlitFloor$SetupReader" ⟨"MoonlitFloor$SetupReader", "restart", "()V"⟩ ⟨"MoonlitFloor$SetupReader", "restart", "()V"⟩ ∈ sg_T := sg_in0 1 rfl rfl
theorem kt_0_2 : Cond.selects "MoonlitFloor$Tokens" ⟨"MoonlitFloor$Tokens", "add", "(LMoonlitFloor$Sign;II)V"⟩ ⟨"MoonlitFloor$Tokens", "add", "(LMoonlitFloor$Sign;II)V"⟩ ∈ sg_T := sg_in0 2 rfl rfl
theorem kt_0_3 : Cond.selects "MoonlitFloor$SetupReader" ⟨"MoonlitFloor$SetupReader", "readFloor", "()V"⟩ ⟨"MoonlitFloor$SetupReader", "readFloor", "()V"⟩ ∈ sg_T := sg_in0 3 rfl rfl
theorem kt_0_4 : Cond.selects "MoonlitFloor$SetupReader" ⟨"MoonlitFloor$SetupReader", "fail", "(I)V"⟩ ⟨"MoonlitFloor$SetupReader", "fail", "(I)V"⟩ ∈ sg_T := sg_in0 4 rfl rfl
theorem kt_0_5 : Cond.selects "MoonlitFloor$SetupReader" ⟨"MoonlitFloor$SetupReader", "takeNumber", "(II)I"⟩ ⟨"MoonlitFloor$SetupReader", "takeNumber", "(II)I"⟩ ∈ sg_T := sg_in0 5 rfl rfl
theorem kt_0_6 : Cond.selects "MoonlitFloor$SetupReader" ⟨"MoonlitFloor$SetupReader", "number", "(II)I"⟩ ⟨"MoonlitFloor$SetupReader", "number", "(II)I"⟩ ∈ sg_T := sg_in0 6 rfl rfl
theorem kt_0_7 : Cond.selects "MoonlitFloor$SetupReader" ⟨"MoonlitFloor$SetupReader", "readSeparator", "()V"⟩ ⟨"MoonlitFloor$SetupReader", "readSeparator", "()V"⟩ ∈ sg_T := sg_in0 7 rfl rfl
theorem kt_0_8 : Cond.selects "MoonlitFloor$SetupReader" ⟨"MoonlitFloor$SetupReader", "closeBracket", "()V"⟩ ⟨"MoonlitFloor$SetupReader", "closeBracket", "()V"⟩ ∈ sg_T := sg_in0 8 rfl rfl
theorem kt_0_9 : Cond.selects "MoonlitFloor$SetupReader" ⟨"MoonlitFloor$SetupReader", "finish", "()V"⟩ ⟨"MoonlitFloor$SetupReader", "finish", "()V"⟩ ∈ sg_T := sg_in0 9 rfl rfl
theorem kt_0_10 : Cond.selects "MoonlitFloor$World" ⟨"MoonlitFloor$World", "liesInMoonlight", "(I)Z"⟩ ⟨"MoonlitFloor$World", "liesInMoonlight", "(I)Z"⟩ ∈ sg_T := sg_in0 10 rfl rfl
theorem kt_0_11 : Cond.selects "MoonlitFloor$World" ⟨"MoonlitFloor$World", "settle", "(I)Z"⟩ ⟨"MoonlitFloor$World", "settle", "(I)Z"⟩ ∈ sg_T := sg_in0 11 rfl rfl
theorem kt_0_12 : Cond.selects "MoonlitFloor$SetupReader" ⟨"MoonlitFloor$SetupReader", "startsEvent", "()Z"⟩ ⟨"MoonlitFloor$SetupReader", "startsEvent", "()Z"⟩ ∈ sg_T := sg_in0 12 rfl rfl
theorem kt_0_13 : Cond.selects "MoonlitFloor$SetupReader" ⟨"MoonlitFloor$SetupReader", "readEvent", "()I"⟩ ⟨"MoonlitFloor$SetupReader", "readEvent", "()I"⟩ ∈ sg_T := sg_in0 13 rfl rfl
theorem kt_0_14 : Cond.selects "MoonlitFloor$SetupReader" ⟨"MoonlitFloor$SetupReader", "startEvents", "()V"⟩ ⟨"MoonlitFloor$SetupReader", "startEvents", "()V"⟩ ∈ sg_T := sg_in0 14 rfl rfl
theorem kt_0_15 : Cond.selects "MoonlitFloor$SetupReader" ⟨"MoonlitFloor$SetupReader", "takeMinutes", "(I)I"⟩ ⟨"MoonlitFloor$SetupReader", "takeMinutes", "(I)I"⟩ ∈ sg_T := sg_in0 15 rfl rfl
theorem kt_0_16 : Cond.selects "MoonlitFloor$SetupReader" ⟨"MoonlitFloor$SetupReader", "readSpill", "()V"⟩ ⟨"MoonlitFloor$SetupReader", "readSpill", "()V"⟩ ∈ sg_T := sg_in0 16 rfl rfl
theorem kt_0_17 : Cond.selects "MoonlitFloor$SetupReader" ⟨"MoonlitFloor$SetupReader", "readCurtains", "(I)V"⟩ ⟨"MoonlitFloor$SetupReader", "readCurtains", "(I)V"⟩ ∈ sg_T := sg_in0 17 rfl rfl
theorem kt_0_18 : Cond.selects "MoonlitFloor$SetupReader" ⟨"MoonlitFloor$SetupReader", "readCarry", "()V"⟩ ⟨"MoonlitFloor$SetupReader", "readCarry", "()V"⟩ ∈ sg_T := sg_in0 18 rfl rfl
theorem kt_0_19 : Cond.selects "MoonlitFloor$SetupReader" ⟨"MoonlitFloor$SetupReader", "readRepeat", "()V"⟩ ⟨"MoonlitFloor$SetupReader", "readRepeat", "()V"⟩ ∈ sg_T := sg_in0 19 rfl rfl
theorem kt_0_20 : Cond.selects "MoonlitFloor$SetupReader" ⟨"MoonlitFloor$SetupReader", "readTiles", "(LMoonlitFloor$Sign;)V"⟩ ⟨"MoonlitFloor$SetupReader", "readTiles", "(LMoonlitFloor$Sign;)V"⟩ ∈ sg_T := sg_in0 20 rfl rfl
theorem kt_0_21 : Cond.selects "MoonlitFloor$SetupReader" ⟨"MoonlitFloor$SetupReader", "readItem", "(LMoonlitFloor$Sign;)V"⟩ ⟨"MoonlitFloor$SetupReader", "readItem", "(LMoonlitFloor$Sign;)V"⟩ ∈ sg_T := sg_in0 21 rfl rfl
theorem kt_0_22 : Cond.selects "MoonlitFloor$SetupReader" ⟨"MoonlitFloor$SetupReader", "countWanted", "(LMoonlitFloor$Sign;III)I"⟩ ⟨"MoonlitFloor$SetupReader", "countWanted", "(LMoonlitFloor$Sign;III)I"⟩ ∈ sg_T := sg_in0 22 rfl rfl
theorem kt_0_23 : Cond.selects "MoonlitFloor$SetupReader" ⟨"MoonlitFloor$SetupReader", "isWanted", "(LMoonlitFloor$Sign;I)Z"⟩ ⟨"MoonlitFloor$SetupReader", "isWanted", "(LMoonlitFloor$Sign;I)Z"⟩ ∈ sg_T := sg_in0 23 rfl rfl
theorem kt_0_24 : Cond.selects "MoonlitFloor$SetupReader" ⟨"MoonlitFloor$SetupReader", "handleLine", "(LMoonlitFloor$Sign;III)V"⟩ ⟨"MoonlitFloor$SetupReader", "handleLine", "(LMoonlitFloor$Sign;III)V"⟩ ∈ sg_T := sg_in0 24 rfl rfl
theorem kt_0_25 : Cond.selects "MoonlitFloor$World" ⟨"MoonlitFloor$World", "moveCat", "()Z"⟩ ⟨"MoonlitFloor$World", "moveCat", "()Z"⟩ ∈ sg_T := sg_in0 25 rfl rfl
theorem kt_0_26 : Cond.selects "MoonlitFloor$World" ⟨"MoonlitFloor$World", "spillBowl", "()V"⟩ ⟨"MoonlitFloor$World", "spillBowl", "()V"⟩ ∈ sg_T := sg_in0 26 rfl rfl
theorem kt_0_27 : Cond.selects "MoonlitFloor$World" ⟨"MoonlitFloor$World", "distance", "(II)I"⟩ ⟨"MoonlitFloor$World", "distance", "(II)I"⟩ ∈ sg_T := sg_in0 27 rfl rfl
theorem kt_0_28 : Cond.selects "MoonlitFloor$World" ⟨"MoonlitFloor$World", "startle", "()V"⟩ ⟨"MoonlitFloor$World", "startle", "()V"⟩ ∈ sg_T := sg_in0 28 rfl rfl
theorem kt_0_29 : Cond.selects "MoonlitFloor$World" ⟨"MoonlitFloor$World", "walk", "(I)V"⟩ ⟨"MoonlitFloor$World", "walk", "(I)V"⟩ ∈ sg_T := sg_in0 29 rfl rfl
theorem kt_0_30 : Cond.selects "MoonlitFloor$World" ⟨"MoonlitFloor$World", "canEnter", "(I)Z"⟩ ⟨"MoonlitFloor$World", "canEnter", "(I)Z"⟩ ∈ sg_T := sg_in0 30 rfl rfl
theorem kt_0_31 : Cond.selects "MoonlitFloor$World" ⟨"MoonlitFloor$World", "slideRug", "(II)V"⟩ ⟨"MoonlitFloor$World", "slideRug", "(II)V"⟩ ∈ sg_T := sg_in0 31 rfl rfl
theorem kt_0_32 : Cond.selects "MoonlitFloor$World" ⟨"MoonlitFloor$World", "enter", "(I)V"⟩ ⟨"MoonlitFloor$World", "enter", "(I)V"⟩ ∈ sg_T := sg_in0 32 rfl rfl
theorem kt_0_33 : Cond.selects "MoonlitFloor$World" ⟨"MoonlitFloor$World", "drySpills", "()V"⟩ ⟨"MoonlitFloor$World", "drySpills", "()V"⟩ ∈ sg_T := sg_in0 33 rfl rfl
theorem kt_0_34 : Cond.selects "MoonlitFloor$World" ⟨"MoonlitFloor$World", "endNight", "()V"⟩ ⟨"MoonlitFloor$World", "endNight", "()V"⟩ ∈ sg_T := sg_in0 34 rfl rfl
theorem kt_0_35 : Cond.selects "MoonlitFloor$World" ⟨"MoonlitFloor$World", "stirCurtains", "()V"⟩ ⟨"MoonlitFloor$World", "stirCurtains", "()V"⟩ ∈ sg_T := sg_in0 35 rfl rfl
theorem kt_0_36 : Cond.selects "MoonlitFloor$SetupReader" ⟨"MoonlitFloor$SetupReader", "readSetting", "()V"⟩ ⟨"MoonlitFloor$SetupReader", "readSetting", "()V"⟩ ∈ sg_T := sg_in0 36 rfl rfl
theorem kt_0_37 : Cond.selects "MoonlitFloor$SetupReader" ⟨"MoonlitFloor$SetupReader", "readWalker", "()V"⟩ ⟨"MoonlitFloor$SetupReader", "readWalker", "()V"⟩ ∈ sg_T := sg_in0 37 rfl rfl
theorem kt_0_38 : Cond.selects "MoonlitFloor$SetupReader" ⟨"MoonlitFloor$SetupReader", "readCat", "()V"⟩ ⟨"MoonlitFloor$SetupReader", "readCat", "()V"⟩ ∈ sg_T := sg_in0 38 rfl rfl
theorem kt_0_39 : Cond.selects "MoonlitFloor$SetupReader" ⟨"MoonlitFloor$SetupReader", "readDraught", "()V"⟩ ⟨"MoonlitFloor$SetupReader", "readDraught", "()V"⟩ ∈ sg_T := sg_in0 39 rfl rfl
theorem kt_0_40 : Cond.selects "MoonlitFloor$SetupReader" ⟨"MoonlitFloor$SetupReader", "readCloud", "()V"⟩ ⟨"MoonlitFloor$SetupReader", "readCloud", "()V"⟩ ∈ sg_T := sg_in0 40 rfl rfl
theorem kt_0_41 : Cond.selects "MoonlitFloor" ⟨"MoonlitFloor", "requireSetup", "()V"⟩ ⟨"MoonlitFloor", "requireSetup", "()V"⟩ ∈ sg_T := sg_in0 41 rfl rfl
theorem kt_0_42 : Cond.selects "MoonlitFloor" ⟨"MoonlitFloor", "requireTile", "(I)V"⟩ ⟨"MoonlitFloor", "requireTile", "(I)V"⟩ ∈ sg_T := sg_in0 42 rfl rfl
theorem kt_0_43 : Cond.selects "MoonlitFloor" ⟨"MoonlitFloor", "requireColumn", "(I)V"⟩ ⟨"MoonlitFloor", "requireColumn", "(I)V"⟩ ∈ sg_T := sg_in0 43 rfl rfl
theorem kt_0_44 : Cond.selects "MoonlitFloor" ⟨"MoonlitFloor", "requireForetellable", "(I)V"⟩ ⟨"MoonlitFloor", "requireForetellable", "(I)V"⟩ ∈ sg_T := sg_in0 44 rfl rfl
theorem kt_0_45 : Cond.selects "MoonlitFloor" ⟨"MoonlitFloor", "foretellSteps", "(II)I"⟩ ⟨"MoonlitFloor", "foretellSteps", "(II)I"⟩ ∈ sg_T := sg_in0 45 rfl rfl
theorem kt_0_46 : Cond.selects "MoonlitFloor" ⟨"MoonlitFloor", "requirePace", "(I)V"⟩ ⟨"MoonlitFloor", "requirePace", "(I)V"⟩ ∈ sg_T := sg_in0 46 rfl rfl
theorem kt_0_47 : Cond.selects "MoonlitFloor" ⟨"MoonlitFloor", "requireSlot", "(I)V"⟩ ⟨"MoonlitFloor", "requireSlot", "(I)V"⟩ ∈ sg_T := sg_in0 47 rfl rfl
theorem kt_0_48 : Cond.selects "java/util/ArrayList" ⟨"java/util/ArrayList", "add", "(Ljava/lang/Object;[Ljava/lang/Object;I)V"⟩ ⟨"java/util/ArrayList", "add", "(Ljava/lang/Object;[Ljava/lang/Object;I)V"⟩ ∈ sg_T := sg_in0 48 rfl rfl
theorem kt_0_49 : Cond.selects "java/util/ArrayList" ⟨"java/util/ArrayList", "grow", "()[Ljava/lang/Object;"⟩ ⟨"java/util/ArrayList", "grow", "()[Ljava/lang/Object;"⟩ ∈ sg_T := sg_in0 49 rfl rfl
theorem kt_0_50 : Cond.selects "java/util/ArrayList" ⟨"java/util/ArrayList", "grow", "(I)[Ljava/lang/Object;"⟩ ⟨"java/util/ArrayList", "grow", "(I)[Ljava/lang/Object;"⟩ ∈ sg_T := sg_in0 50 rfl rfl
theorem kt_0_51 : Cond.selects "java/util/ArrayList" ⟨"java/util/ArrayList", "rangeCheckForAdd", "(I)V"⟩ ⟨"java/util/ArrayList", "rangeCheckForAdd", "(I)V"⟩ ∈ sg_T := sg_in0 51 rfl rfl
theorem kt_0_52 : Cond.selects "java/util/ArrayList" ⟨"java/util/ArrayList", "fastRemove", "([Ljava/lang/Object;I)V"⟩ ⟨"java/util/ArrayList", "fastRemove", "([Ljava/lang/Object;I)V"⟩ ∈ sg_T := sg_in0 52 rfl rfl
theorem kt_0_53 : Cond.selects "MoonlitFloor" ⟨"MoonlitFloor", "appendWord", "(I)V"⟩ ⟨"MoonlitFloor", "appendWord", "(I)V"⟩ ∈ sg_T := sg_in0 53 rfl rfl
theorem kt_0_54 : Cond.selects "MoonlitFloor" ⟨"MoonlitFloor", "requireRecord", "(I)V"⟩ ⟨"MoonlitFloor", "requireRecord", "(I)V"⟩ ∈ sg_T := sg_in0 54 rfl rfl
