theorem tm_1 {w : Cond} (h : w ∈ tables_1_1) : w ∈ tables_1 := List.mem_append_left _ h
theorem tg_1 {w : Cond} (i : Nat) (h : tables_1_1[i]? = some w) (g : goodWord w = true) : w ∈ lw_good := List.mem_filter.mpr ⟨List.mem_append_right _ (tm_1 (List.mem_of_getElem? h)), g⟩
theorem tm_2 {w : Cond} (h : w ∈ tables_1_2) : w ∈ tables_1 := List.mem_append_right _ (List.mem_append_left _ h)
theorem tg_2 {w : Cond} (i : Nat) (h : tables_1_2[i]? = some w) (g : goodWord w = true) : w ∈ lw_good := List.mem_filter.mpr ⟨List.mem_append_right _ (tm_2 (List.mem_of_getElem? h)), g⟩
theorem tm_3 {w : Cond} (h : w ∈ tables_1_3) : w ∈ tables_1 := List.mem_append_right _ (List.mem_append_right _ (List.mem_append_left _ h))
theorem tg_3 {w : Cond} (i : Nat) (h : tables_1_3[i]? = some w) (g : goodWord w = true) : w ∈ lw_good := List.mem_filter.mpr ⟨List.mem_append_right _ (tm_3 (List.mem_of_getElem? h)), g⟩
theorem tm_4 {w : Cond} (h : w ∈ tables_1_4) : w ∈ tables_1 := List.mem_append_right _ (List.mem_append_right _ (List.mem_append_right _ (List.mem_append_left _ h)))
theorem tg_4 {w : Cond} (i : Nat) (h : tables_1_4[i]? = some w) (g : goodWord w = true) : w ∈ lw_good := List.mem_filter.mpr ⟨List.mem_append_right _ (tm_4 (List.mem_of_getElem? h)), g⟩
theorem tm_5 {w : Cond} (h : w ∈ tables_1_5) : w ∈ tables_1 := List.mem_append_right _ (List.mem_append_right _ (List.mem_append_right _ (List.mem_append_right _ (List.mem_append_left _ h))))
theorem tg_5 {w : Cond} (i : Nat) (h : tables_1_5[i]? = some w) (g : goodWord w = true) : w ∈ lw_good := List.mem_filter.mpr ⟨List.mem_append_right _ (tm_5 (List.mem_of_getElem? h)), g⟩
theorem tm_6 {w : Cond} (h : w ∈ tables_1_6) : w ∈ tables_1 := List.mem_append_right _ (List.mem_append_right _ (List.mem_append_right _ (List.mem_append_right _ (List.mem_append_right _ (List.mem_append_left _ h)))))
theorem tg_6 {w : Cond} (i : Nat) (h : tables_1_6[i]? = some w) (g : goodWord w = true) : w ∈ lw_good := List.mem_filter.mpr ⟨List.mem_append_right _ (tm_6 (List.mem_of_getElem? h)), g⟩
theorem tm_7 {w : Cond} (h : w ∈ tables_1_7) : w ∈ tables_1 := List.mem_append_right _ (List.mem_append_right _ (List.mem_append_right _ (List.mem_append_right _ (List.mem_append_right _ (List.mem_append_right _ (List.mem_append_left _ h))))))
theorem tg_7 {w : Cond} (i : Nat) (h : tables_1_7[i]? = some w) (g : goodWord w = true) : w ∈ lw_good := List.mem_filter.mpr ⟨List.mem_append_right _ (tm_7 (List.mem_of_getElem? h)), g⟩
theorem tm_8 {w : Cond} (h : w ∈ tables_1_8) : w ∈ tables_1 := List.mem_append_right _ (List.mem_append_right _ (List.mem_append_right _ (List.mem_append_right _ (List.mem_append_right _ (List.mem_append_right _ (List.mem_append_right _ (h)))))))
theorem tg_8 {w : Cond} (i : Nat) (h : tables_1_8[i]? = some w) (g : goodWord w = true) : w ∈ lw_good := List.mem_filter.mpr ⟨List.mem_append_right _ (tm_8 (List.mem_of_getElem? h)), g⟩
theorem g_0 : (Jvm.Cond.initialized "BronzeKingLaw") ∈ lw_good := tg_1 0 rfl rfl
theorem g_1 : (Jvm.Cond.initialized "BronzeKing") ∈ lw_good := tg_1 1 rfl rfl
theorem g_2 : (Jvm.Cond.initialized "BronzeKing$Tape") ∈ lw_good := tg_1 2 rfl rfl
theorem g_3 : (Jvm.Cond.initialized "BronzeKing$Town") ∈ lw_good := tg_1 3 rfl rfl
theorem g_4 : (Jvm.Cond.initialized "BronzeKing$PlaceSet") ∈ lw_good := tg_1 4 rfl rfl
theorem g_5 : (Jvm.Cond.initialized "java/util/Arrays") ∈ lw_good := tg_1 5 rfl rfl
theorem g_6 : (Jvm.Cond.initialized "BronzeKing$Law") ∈ lw_good := tg_1 6 rfl rfl
theorem g_7 : (Jvm.Cond.initialized "BronzeKing$LawReader") ∈ lw_good := tg_1 7 rfl rfl
theorem g_8 : (Jvm.Cond.initialized "BronzeKing$Walker") ∈ lw_good := tg_1 8 rfl rfl
theorem g_9 : (Jvm.Cond.initialized "BronzeKing$Vigil") ∈ lw_good := tg_1 9 rfl rfl
theorem g_10 : (Jvm.Cond.initialized "BronzeKing$Survey") ∈ lw_good := tg_1 10 rfl rfl
theorem g_11 : (Jvm.Cond.initialized "BronzeKing$Hunt") ∈ lw_good := tg_1 11 rfl rfl
theorem g_12 : (Jvm.Cond.initialized "BronzeKing$Rounds") ∈ lw_good := tg_1 12 rfl rfl
theorem g_13 : (Jvm.Cond.initialized "BronzeKing$Course") ∈ lw_good := tg_1 13 rfl rfl
theorem g_14 : (Jvm.Cond.initialized "BronzeKingModel") ∈ lw_good := tg_1 14 rfl rfl
theorem g_15 : (Jvm.Cond.initialized "java/lang/String") ∈ lw_good := tg_1 15 rfl rfl
theorem g_16 : (Jvm.Cond.initialized "java/lang/StringLatin1") ∈ lw_good := tg_1 16 rfl rfl
theorem g_17 : (Jvm.Cond.initialized "java/lang/Math") ∈ lw_good := tg_1 17 rfl rfl
theorem g_18 : (Jvm.Cond.initialized "java/lang/StringUTF16") ∈ lw_good := tg_1 18 rfl rfl
theorem g_19 : (Jvm.Cond.initialized "jdk/internal/util/Preconditions") ∈ lw_good := tg_1 19 rfl rfl
theorem g_20 : (Jvm.Cond.initialized "java/lang/Character") ∈ lw_good := tg_1 20 rfl rfl
theorem g_21 : (Jvm.Cond.initialized "java/lang/System") ∈ lw_good := tg_1 21 rfl rfl
theorem g_22 : (Jvm.Cond.initialized "java/lang/Integer") ∈ lw_good := tg_1 22 rfl rfl
theorem g_23 : (Jvm.Cond.initialized "java/lang/Long") ∈ lw_good := tg_1 23 rfl rfl
theorem g_24 : (Jvm.Cond.classLink "BronzeKingLaw" (7 : Nat) "BronzeKing") ∈ lw_good := tg_1 24 rfl rfl
theorem g_25 : (Jvm.Cond.instantiable "BronzeKing" (13 : Nat)) ∈ lw_good := tg_1 25 rfl rfl
theorem g_26 : (Jvm.Cond.methodLink "BronzeKingLaw" (9 : Nat) ({ cls := "BronzeKing", name := "<init>", desc := "()V" } : Jvm.MethodName)) ∈ lw_good := tg_1 26 rfl rfl
theorem g_27 : (Jvm.Cond.instanceMethod ({ cls := "BronzeKing", name := "<init>", desc := "()V" } : Jvm.MethodName)) ∈ lw_good := tg_1 27 rfl rfl
theorem g_28 : (Jvm.Cond.code ({ cls := "BronzeKing", name := "<init>", desc := "()V" } : Jvm.MethodName) prog_1_method_1_code (1 : Nat) (Option.none : Option Jvm.ClassFile.FieldType)) ∈ lw_good := tg_1 28 rfl rfl
theorem g_29 : (Jvm.Cond.methodLink "BronzeKing" (1 : Nat) ({ cls := "java/lang/Object", name := "<init>", desc := "()V" } : Jvm.MethodName)) ∈ lw_good := tg_1 29 rfl rfl
theorem g_30 : (Jvm.Cond.instanceMethod ({ cls := "java/lang/Object", name := "<init>", desc := "()V" } : Jvm.MethodName)) ∈ lw_good := tg_1 30 rfl rfl
theorem g_31 : (Jvm.Cond.code ({ cls := "java/lang/Object", name := "<init>", desc := "()V" } : Jvm.MethodName) object_method_1_code (1 : Nat) (Option.none : Option Jvm.ClassFile.FieldType)) ∈ lw_good := tg_1 31 rfl rfl
theorem g_32 : (Jvm.Cond.classLink "BronzeKing" (7 : Nat) "BronzeKing$Tape") ∈ lw_good := tg_1 32 rfl rfl
theorem g_33 : (Jvm.Cond.instantiable "BronzeKing$Tape" (2 : Nat)) ∈ lw_good := tg_1 33 rfl rfl
theorem g_34 : (Jvm.Cond.methodLinkNest "BronzeKing" (9 : Nat) ({ cls := "BronzeKing$Tape", name := "<init>", desc := "()V" } : Jvm.MethodName) "BronzeKing") ∈ tables_1 := tm_1 (List.mem_of_getElem? (i := 34) rfl)
theorem g_35 : (Jvm.Cond.instanceMethod ({ cls := "BronzeKing$Tape", name := "<init>", desc := "()V" } : Jvm.MethodName)) ∈ lw_good := tg_1 35 rfl rfl
theorem g_36 : (Jvm.Cond.code ({ cls := "BronzeKing$Tape", name := "<init>", desc := "()V" } : Jvm.MethodName) prog_9_method_1_code (1 : Nat) (Option.none : Option Jvm.ClassFile.FieldType)) ∈ lw_good := tg_1 36 rfl rfl
theorem g_37 : (Jvm.Cond.methodLink "BronzeKing$Tape" (3 : Nat) ({ cls := "java/lang/Object", name := "<init>", desc := "()V" } : Jvm.MethodName)) ∈ lw_good := tg_1 37 rfl rfl
theorem g_38 : (Jvm.Cond.fieldLink "BronzeKing$Tape" (11 : Nat) "BronzeKing$Tape" "bytes" "[I") ∈ lw_good := tg_1 38 rfl rfl
theorem g_39 : (Jvm.Cond.fieldLinkNest "BronzeKing" (249 : Nat) "BronzeKing$Tape" "bytes" "[I" "BronzeKing") ∈ tables_1 := tm_1 (List.mem_of_getElem? (i := 39) rfl)
theorem g_40 : (Jvm.Cond.fieldLink "BronzeKing$Tape" (15 : Nat) "BronzeKing$Tape" "size" "I") ∈ lw_good := tg_1 40 rfl rfl
theorem g_41 : (Jvm.Cond.fieldLinkNest "BronzeKing" (121 : Nat) "BronzeKing$Tape" "size" "I" "BronzeKing") ∈ tables_1 := tm_1 (List.mem_of_getElem? (i := 41) rfl)
theorem g_47 : (Jvm.Cond.arrayClass Jvm.ClassFile.FieldType.int) ∈ lw_good := tg_1 47 rfl rfl
theorem g_48 : (Jvm.Cond.classLink "BronzeKing" (16 : Nat) "BronzeKing$Town") ∈ lw_good := tg_1 48 rfl rfl
theorem g_49 : (Jvm.Cond.instantiable "BronzeKing$Town" (10 : Nat)) ∈ lw_good := tg_1 49 rfl rfl
theorem g_50 : (Jvm.Cond.methodLink "BronzeKing" (18 : Nat) ({ cls := "BronzeKing$Town", name := "<init>", desc := "()V" } : Jvm.MethodName)) ∈ lw_good := tg_1 50 rfl rfl
theorem g_51 : (Jvm.Cond.instanceMethod ({ cls := "BronzeKing$Town", name := "<init>", desc := "()V" } : Jvm.MethodName)) ∈ lw_good := tg_1 51 rfl rfl
theorem g_52 : (Jvm.Cond.code ({ cls := "BronzeKing$Town", name := "<init>", desc := "()V" } : Jvm.MethodName) prog_10_method_1_code (1 : Nat) (Option.none : Option Jvm.ClassFile.FieldType)) ∈ lw_good := tg_1 52 rfl rfl
theorem g_53 : (Jvm.Cond.methodLink "BronzeKing$Town" (3 : Nat) ({ cls := "java/lang/Object", name := "<init>", desc := "()V" } : Jvm.MethodName)) ∈ lw_good := tg_1 53 rfl rfl
theorem g_54 : (Jvm.Cond.classLink "BronzeKing$Town" (30 : Nat) "BronzeKing$PlaceSet") ∈ lw_good := tg_1 54 rfl rfl
theorem g_55 : (Jvm.Cond.instantiable "BronzeKing$PlaceSet" (2 : Nat)) ∈ lw_good := tg_1 55 rfl rfl
theorem g_56 : (Jvm.Cond.methodLinkNest "BronzeKing$Town" (32 : Nat) ({ cls := "BronzeKing$PlaceSet", name := "<init>", desc := "()V" } : Jvm.MethodName) "BronzeKing") ∈ tables_1 := tm_1 (List.mem_of_getElem? (i := 56) rfl)
theorem g_57 : (Jvm.Cond.instanceMethod ({ cls := "BronzeKing$PlaceSet", name := "<init>", desc := "()V" } : Jvm.MethodName)) ∈ lw_good := tg_1 57 rfl rfl
theorem g_58 : (Jvm.Cond.code ({ cls := "BronzeKing$PlaceSet", name := "<init>", desc := "()V" } : Jvm.MethodName) prog_6_method_1_code (1 : Nat) (Option.none : Option Jvm.ClassFile.FieldType)) ∈ lw_good := tg_1 58 rfl rfl
theorem g_59 : (Jvm.Cond.methodLink "BronzeKing$PlaceSet" (3 : Nat) ({ cls := "java/lang/Object", name := "<init>", desc := "()V" } : Jvm.MethodName)) ∈ lw_good := tg_1 59 rfl rfl
theorem g_60 : (Jvm.Cond.fieldLink "BronzeKing$PlaceSet" (9 : Nat) "BronzeKing$PlaceSet" "upper" "J") ∈ lw_good := tg_1 60 rfl rfl
theorem g_61 : (Jvm.Cond.fieldLink "BronzeKing$PlaceSet" (15 : Nat) "BronzeKing$PlaceSet" "lower" "J") ∈ lw_good := tg_1 61 rfl rfl
theorem g_67 : (Jvm.Cond.methodLink "BronzeKing$Town" (47 : Nat) ({ cls := "java/util/Arrays", name := "fill", desc := "([II)V" } : Jvm.MethodName)) ∈ lw_good := tg_1 67 rfl rfl
theorem g_68 : (Jvm.Cond.static ({ cls := "java/util/Arrays", name := "fill", desc := "([II)V" } : Jvm.MethodName)) ∈ lw_good := tg_1 68 rfl rfl
theorem g_69 : (Jvm.Cond.code ({ cls := "java/util/Arrays", name := "fill", desc := "([II)V" } : Jvm.MethodName) prog_23_method_103_code (4 : Nat) (Option.none : Option Jvm.ClassFile.FieldType)) ∈ lw_good := tg_1 69 rfl rfl
theorem g_70 : (Jvm.Cond.fieldLink "BronzeKing$Town" (9 : Nat) "BronzeKing$Town" "kinds" "[I") ∈ lw_good := tg_1 70 rfl rfl
theorem g_71 : (Jvm.Cond.fieldLink "BronzeKing$Town" (15 : Nat) "BronzeKing$Town" "draft" "[I") ∈ lw_good := tg_1 71 rfl rfl
theorem g_72 : (Jvm.Cond.fieldLink "BronzeKing$Town" (18 : Nat) "BronzeKing$Town" "doorAt" "[I") ∈ lw_good := tg_1 72 rfl rfl
theorem g_73 : (Jvm.Cond.fieldLinkNest "BronzeKing" (106 : Nat) "BronzeKing$Town" "doorAt" "[I" "BronzeKing") ∈ tables_1 := tm_1 (List.mem_of_getElem? (i := 73) rfl)
theorem g_74 : (Jvm.Cond.fieldLinkNest "BronzeKing$Rounds" (70 : Nat) "BronzeKing$Town" "doorAt" "[I" "BronzeKing") ∈ tables_1 := tm_1 (List.mem_of_getElem? (i := 74) rfl)
theorem g_75 : (Jvm.Cond.fieldLinkNest "BronzeKing$Walker" (132 : Nat) "BronzeKing$Town" "doorAt" "[I" "BronzeKing") ∈ tables_1 := tm_1 (List.mem_of_getElem? (i := 75) rfl)
theorem g_76 : (Jvm.Cond.fieldLink "BronzeKing$Town" (21 : Nat) "BronzeKing$Town" "home" "[I") ∈ lw_good := tg_1 76 rfl rfl
theorem g_77 : (Jvm.Cond.fieldLinkNest "BronzeKing$Walker" (88 : Nat) "BronzeKing$Town" "home" "[I" "BronzeKing") ∈ tables_1 := tm_1 (List.mem_of_getElem? (i := 77) rfl)
theorem g_78 : (Jvm.Cond.fieldLinkNest "BronzeKing" (168 : Nat) "BronzeKing$Town" "home" "[I" "BronzeKing") ∈ tables_1 := tm_1 (List.mem_of_getElem? (i := 78) rfl)
theorem g_79 : (Jvm.Cond.fieldLinkNest "BronzeKing$Survey" (146 : Nat) "BronzeKing$Town" "home" "[I" "BronzeKing") ∈ tables_1 := tm_1 (List.mem_of_getElem? (i := 79) rfl)
theorem g_80 : (Jvm.Cond.fieldLink "BronzeKing$Town" (24 : Nat) "BronzeKing$Town" "toNine" "[I") ∈ lw_good := tg_1 80 rfl rfl
theorem g_81 : (Jvm.Cond.fieldLinkNest "BronzeKing$Walker" (119 : Nat) "BronzeKing$Town" "toNine" "[I" "BronzeKing") ∈ tables_1 := tm_1 (List.mem_of_getElem? (i := 81) rfl)
theorem g_82 : (Jvm.Cond.fieldLinkNest "BronzeKing" (171 : Nat) "BronzeKing$Town" "toNine" "[I" "BronzeKing") ∈ tables_1 := tm_1 (List.mem_of_getElem? (i := 82) rfl)
theorem g_83 : (Jvm.Cond.fieldLink "BronzeKing$Town" (27 : Nat) "BronzeKing$Town" "queue" "[I") ∈ lw_good := tg_1 83 rfl rfl
theorem g_84 : (Jvm.Cond.fieldLink "BronzeKing$Town" (33 : Nat) "BronzeKing$Town" "open" "LBronzeKing$PlaceSet;") ∈ lw_good := tg_1 84 rfl rfl
theorem g_85 : (Jvm.Cond.fieldLinkNest "BronzeKing$Hunt" (47 : Nat) "BronzeKing$Town" "open" "LBronzeKing$PlaceSet;" "BronzeKing") ∈ tables_1 := tm_1 (List.mem_of_getElem? (i := 85) rfl)
theorem g_86 : (Jvm.Cond.fieldLinkNest "BronzeKing$Survey" (100 : Nat) "BronzeKing$Town" "open" "LBronzeKing$PlaceSet;" "BronzeKing") ∈ tables_1 := tm_1 (List.mem_of_getElem? (i := 86) rfl)
theorem g_87 : (Jvm.Cond.fieldLinkNest "BronzeKing" (295 : Nat) "BronzeKing$Town" "open" "LBronzeKing$PlaceSet;" "BronzeKing") ∈ tables_1 := tm_1 (List.mem_of_getElem? (i := 87) rfl)
theorem g_88 : (Jvm.Cond.fieldLink "BronzeKing$Town" (37 : Nat) "BronzeKing$Town" "squareAt" "I") ∈ lw_good := tg_1 88 rfl rfl
theorem g_89 : (Jvm.Cond.fieldLinkNest "BronzeKing$Survey" (58 : Nat) "BronzeKing$Town" "squareAt" "I" "BronzeKing") ∈ tables_1 := tm_1 (List.mem_of_getElem? (i := 89) rfl)
theorem g_90 : (Jvm.Cond.fieldLinkNest "BronzeKing" (102 : Nat) "BronzeKing$Town" "squareAt" "I" "BronzeKing") ∈ tables_1 := tm_1 (List.mem_of_getElem? (i := 90) rfl)
theorem g_91 : (Jvm.Cond.fieldLinkNest "BronzeKing$Walker" (53 : Nat) "BronzeKing$Town" "squareAt" "I" "BronzeKing") ∈ tables_1 := tm_1 (List.mem_of_getElem? (i := 91) rfl)
theorem g_92 : (Jvm.Cond.fieldLinkNest "BronzeKing$Rounds" (67 : Nat) "BronzeKing$Town" "squareAt" "I" "BronzeKing") ∈ tables_1 := tm_1 (List.mem_of_getElem? (i := 92) rfl)
theorem g_93 : (Jvm.Cond.fieldLink "BronzeKing$Town" (41 : Nat) "BronzeKing$Town" "told" "I") ∈ lw_good := tg_1 93 rfl rfl
theorem g_94 : (Jvm.Cond.fieldLinkNest "BronzeKing" (110 : Nat) "BronzeKing$Town" "told" "I" "BronzeKing") ∈ tables_1 := tm_1 (List.mem_of_getElem? (i := 94) rfl)
theorem g_95 : (Jvm.Cond.fieldLinkNest "BronzeKing$Rounds" (64 : Nat) "BronzeKing$Town" "told" "I" "BronzeKing") ∈ tables_1 := tm_1 (List.mem_of_getElem? (i := 95) rfl)
theorem g_96 : (Jvm.Cond.fieldLink "BronzeKing$Town" (44 : Nat) "BronzeKing$Town" "changes" "I") ∈ lw_good := tg_1 96 rfl rfl
theorem g_97 : (Jvm.Cond.fieldLinkNest "BronzeKing$Rounds" (37 : Nat) "BronzeKing$Town" "changes" "I" "BronzeKing") ∈ tables_1 := tm_1 (List.mem_of_getElem? (i := 97) rfl)
theorem g_119 : (Jvm.Cond.classLink "BronzeKing" (23 : Nat) "BronzeKing$Law") ∈ lw_good := tg_1 119 rfl rfl
theorem g_120 : (Jvm.Cond.instantiable "BronzeKing$Law" (6 : Nat)) ∈ lw_good := tg_1 120 rfl rfl
theorem g_121 : (Jvm.Cond.methodLinkNest "BronzeKing" (25 : Nat) ({ cls := "BronzeKing$Law", name := "<init>", desc := "()V" } : Jvm.MethodName) "BronzeKing") ∈ tables_1 := tm_1 (List.mem_of_getElem? (i := 121) rfl)
theorem g_122 : (Jvm.Cond.instanceMethod ({ cls := "BronzeKing$Law", name := "<init>", desc := "()V" } : Jvm.MethodName)) ∈ lw_good := tg_1 122 rfl rfl
theorem g_123 : (Jvm.Cond.code ({ cls := "BronzeKing$Law", name := "<init>", desc := "()V" } : Jvm.MethodName) prog_4_method_1_code (1 : Nat) (Option.none : Option Jvm.ClassFile.FieldType)) ∈ lw_good := tg_1 123 rfl rfl
theorem g_124 : (Jvm.Cond.methodLink "BronzeKing$Law" (3 : Nat) ({ cls := "java/lang/Object", name := "<init>", desc := "()V" } : Jvm.MethodName)) ∈ lw_good := tg_1 124 rfl rfl
theorem g_125 : (Jvm.Cond.fieldLink "BronzeKing$Law" (9 : Nat) "BronzeKing$Law" "code" "[I") ∈ lw_good := tg_1 125 rfl rfl
theorem g_126 : (Jvm.Cond.fieldLink "BronzeKing$Law" (15 : Nat) "BronzeKing$Law" "starts" "[I") ∈ lw_good := tg_1 126 rfl rfl
theorem g_127 : (Jvm.Cond.fieldLink "BronzeKing$Law" (18 : Nat) "BronzeKing$Law" "kinds" "[I") ∈ lw_good := tg_1 127 rfl rfl
theorem g_128 : (Jvm.Cond.fieldLink "BronzeKing$Law" (21 : Nat) "BronzeKing$Law" "rules" "I") ∈ lw_good := tg_1 128 rfl rfl
theorem g_129 : (Jvm.Cond.fieldLinkNest "BronzeKing" (319 : Nat) "BronzeKing$Law" "rules" "I" "BronzeKing") ∈ tables_1 := tm_1 (List.mem_of_getElem? (i := 129) rfl)
theorem g_130 : (Jvm.Cond.fieldLink "BronzeKing$Law" (25 : Nat) "BronzeKing$Law" "values" "[I") ∈ lw_good := tg_1 130 rfl rfl
theorem g_131 : (Jvm.Cond.fieldLink "BronzeKing$Law" (28 : Nat) "BronzeKing$Law" "stack" "[I") ∈ lw_good := tg_1 131 rfl rfl
theorem g_145 : (Jvm.Cond.classLink "BronzeKing" (30 : Nat) "BronzeKing$LawReader") ∈ lw_good := tg_1 145 rfl rfl
theorem g_146 : (Jvm.Cond.instantiable "BronzeKing$LawReader" (12 : Nat)) ∈ lw_good := tg_1 146 rfl rfl
theorem g_147 : (Jvm.Cond.methodLinkNest "BronzeKing" (32 : Nat) ({ cls := "BronzeKing$LawReader", name := "<init>", desc := "()V" } : Jvm.MethodName) "BronzeKing") ∈ tables_1 := tm_1 (List.mem_of_getElem? (i := 147) rfl)
theorem g_148 : (Jvm.Cond.instanceMethod ({ cls := "BronzeKing$LawReader", name := "<init>", desc := "()V" } : Jvm.MethodName)) ∈ lw_good := tg_1 148 rfl rfl
theorem g_149 : (Jvm.Cond.code ({ cls := "BronzeKing$LawReader", name := "<init>", desc := "()V" } : Jvm.MethodName) prog_5_method_1_code (1 : Nat) (Option.none : Option Jvm.ClassFile.FieldType)) ∈ lw_good := tg_1 149 rfl rfl
theorem g_150 : (Jvm.Cond.methodLink "BronzeKing$LawReader" (3 : Nat) ({ cls := "java/lang/Object", name := "<init>", desc := "()V" } : Jvm.MethodName)) ∈ lw_good := tg_1 150 rfl rfl
theorem g_151 : (Jvm.Cond.fieldLink "BronzeKing$LawReader" (9 : Nat) "BronzeKing$LawReader" "code" "[I") ∈ lw_good := tg_1 151 rfl rfl
theorem g_152 : (Jvm.Cond.fieldLinkNest "BronzeKing$Law" (31 : Nat) "BronzeKing$LawReader" "code" "[I" "BronzeKing") ∈ tables_1 := tm_1 (List.mem_of_getElem? (i := 152) rfl)
theorem g_153 : (Jvm.Cond.fieldLink "BronzeKing$LawReader" (15 : Nat) "BronzeKing$LawReader" "starts" "[I") ∈ lw_good := tg_1 153 rfl rfl
theorem g_154 : (Jvm.Cond.fieldLinkNest "BronzeKing$Law" (40 : Nat) "BronzeKing$LawReader" "starts" "[I" "BronzeKing") ∈ tables_1 := tm_1 (List.mem_of_getElem? (i := 154) rfl)
theorem g_155 : (Jvm.Cond.fieldLink "BronzeKing$LawReader" (18 : Nat) "BronzeKing$LawReader" "kinds" "[I") ∈ lw_good := tg_1 155 rfl rfl
theorem g_156 : (Jvm.Cond.fieldLinkNest "BronzeKing$Law" (41 : Nat) "BronzeKing$LawReader" "kinds" "[I" "BronzeKing") ∈ tables_1 := tm_1 (List.mem_of_getElem? (i := 156) rfl)
theorem g_157 : (Jvm.Cond.fieldLink "BronzeKing$LawReader" (21 : Nat) "BronzeKing$LawReader" "stack" "[I") ∈ lw_good := tg_1 157 rfl rfl
theorem g_158 : (Jvm.Cond.fieldLink "BronzeKing$LawReader" (24 : Nat) "BronzeKing$LawReader" "leaps" "[I") ∈ lw_good := tg_1 158 rfl rfl
theorem g_159 : (Jvm.Cond.fieldLink "BronzeKing$LawReader" (27 : Nat) "BronzeKing$LawReader" "rules" "I") ∈ lw_good := tg_1 159 rfl rfl
theorem g_160 : (Jvm.Cond.fieldLinkNest "BronzeKing$Law" (42 : Nat) "BronzeKing$LawReader" "rules" "I" "BronzeKing") ∈ tables_1 := tm_1 (List.mem_of_getElem? (i := 160) rfl)
theorem g_161 : (Jvm.Cond.fieldLink "BronzeKing$LawReader" (31 : Nat) "BronzeKing$LawReader" "length" "I") ∈ lw_good := tg_1 161 rfl rfl
theorem g_162 : (Jvm.Cond.fieldLink "BronzeKing$LawReader" (34 : Nat) "BronzeKing$LawReader" "size" "I") ∈ lw_good := tg_1 162 rfl rfl
theorem g_163 : (Jvm.Cond.fieldLink "BronzeKing$LawReader" (37 : Nat) "BronzeKing$LawReader" "openNow" "I") ∈ lw_good := tg_1 163 rfl rfl
theorem g_164 : (Jvm.Cond.fieldLink "BronzeKing$LawReader" (40 : Nat) "BronzeKing$LawReader" "state" "I") ∈ lw_good := tg_1 164 rfl rfl
theorem g_165 : (Jvm.Cond.fieldLink "BronzeKing$LawReader" (43 : Nat) "BronzeKing$LawReader" "number" "I") ∈ lw_good := tg_1 165 rfl rfl
theorem g_166 : (Jvm.Cond.fieldLink "BronzeKing$LawReader" (46 : Nat) "BronzeKing$LawReader" "digits" "I") ∈ lw_good := tg_1 166 rfl rfl
theorem g_192 : (Jvm.Cond.classLink "BronzeKing" (37 : Nat) "BronzeKing$Walker") ∈ lw_good := tg_1 192 rfl rfl
theorem g_193 : (Jvm.Cond.instantiable "BronzeKing$Walker" (3 : Nat)) ∈ lw_good := tg_1 193 rfl rfl
theorem g_194 : (Jvm.Cond.methodLink "BronzeKing" (39 : Nat) ({ cls := "BronzeKing$Walker", name := "<init>", desc := "(LBronzeKing$Town;LBronzeKing$Law;)V" } : Jvm.MethodName)) ∈ lw_good := tg_1 194 rfl rfl
theorem g_195 : (Jvm.Cond.instanceMethod ({ cls := "BronzeKing$Walker", name := "<init>", desc := "(LBronzeKing$Town;LBronzeKing$Law;)V" } : Jvm.MethodName)) ∈ lw_good := tg_1 195 rfl rfl
theorem g_196 : (Jvm.Cond.code ({ cls := "BronzeKing$Walker", name := "<init>", desc := "(LBronzeKing$Town;LBronzeKing$Law;)V" } : Jvm.MethodName) prog_12_method_1_code (3 : Nat) (Option.none : Option Jvm.ClassFile.FieldType)) ∈ lw_good := tg_1 196 rfl rfl
theorem g_197 : (Jvm.Cond.methodLink "BronzeKing$Walker" (3 : Nat) ({ cls := "java/lang/Object", name := "<init>", desc := "()V" } : Jvm.MethodName)) ∈ lw_good := tg_1 197 rfl rfl
theorem g_198 : (Jvm.Cond.fieldLink "BronzeKing$Walker" (15 : Nat) "BronzeKing$Walker" "town" "LBronzeKing$Town;") ∈ lw_good := tg_1 198 rfl rfl
theorem g_199 : (Jvm.Cond.fieldLink "BronzeKing$Walker" (19 : Nat) "BronzeKing$Walker" "rule" "LBronzeKing$Law;") ∈ lw_good := tg_1 199 rfl rfl
theorem g_200 : (Jvm.Cond.fieldLink "BronzeKing$Walker" (9 : Nat) "BronzeKing$Walker" "weights" "[I") ∈ lw_good := tg_1 200 rfl rfl
theorem g_208 : (Jvm.Cond.classLink "BronzeKing" (46 : Nat) "BronzeKing$Vigil") ∈ lw_good := tg_1 208 rfl rfl
theorem g_209 : (Jvm.Cond.instantiable "BronzeKing$Vigil" (8 : Nat)) ∈ lw_good := tg_1 209 rfl rfl
theorem g_210 : (Jvm.Cond.methodLink "BronzeKing" (48 : Nat) ({ cls := "BronzeKing$Vigil", name := "<init>", desc := "(LBronzeKing$Law;)V" } : Jvm.MethodName)) ∈ lw_good := tg_1 210 rfl rfl
theorem g_211 : (Jvm.Cond.instanceMethod ({ cls := "BronzeKing$Vigil", name := "<init>", desc := "(LBronzeKing$Law;)V" } : Jvm.MethodName)) ∈ lw_good := tg_1 211 rfl rfl
theorem g_212 : (Jvm.Cond.code ({ cls := "BronzeKing$Vigil", name := "<init>", desc := "(LBronzeKing$Law;)V" } : Jvm.MethodName) prog_11_method_1_code (2 : Nat) (Option.none : Option Jvm.ClassFile.FieldType)) ∈ lw_good := tg_1 212 rfl rfl
theorem g_213 : (Jvm.Cond.methodLink "BronzeKing$Vigil" (3 : Nat) ({ cls := "java/lang/Object", name := "<init>", desc := "()V" } : Jvm.MethodName)) ∈ lw_good := tg_1 213 rfl rfl
theorem g_214 : (Jvm.Cond.fieldLink "BronzeKing$Vigil" (34 : Nat) "BronzeKing$Vigil" "rule" "LBronzeKing$Law;") ∈ lw_good := tg_1 214 rfl rfl
theorem g_215 : (Jvm.Cond.fieldLink "BronzeKing$Vigil" (9 : Nat) "BronzeKing$Vigil" "weights" "[I") ∈ lw_good := tg_1 215 rfl rfl
theorem g_216 : (Jvm.Cond.fieldLinkNest "BronzeKing" (190 : Nat) "BronzeKing$Vigil" "weights" "[I" "BronzeKing") ∈ tables_1 := tm_1 (List.mem_of_getElem? (i := 216) rfl)
theorem g_217 : (Jvm.Cond.fieldLink "BronzeKing$Vigil" (15 : Nat) "BronzeKing$Vigil" "watched" "I") ∈ lw_good := tg_1 217 rfl rfl
theorem g_218 : (Jvm.Cond.fieldLinkNest "BronzeKing" (197 : Nat) "BronzeKing$Vigil" "watched" "I" "BronzeKing") ∈ tables_1 := tm_1 (List.mem_of_getElem? (i := 218) rfl)
theorem g_219 : (Jvm.Cond.fieldLink "BronzeKing$Vigil" (19 : Nat) "BronzeKing$Vigil" "draft" "I") ∈ lw_good := tg_1 219 rfl rfl
theorem g_220 : (Jvm.Cond.fieldLink "BronzeKing$Vigil" (22 : Nat) "BronzeKing$Vigil" "at" "I") ∈ lw_good := tg_1 220 rfl rfl
theorem g_221 : (Jvm.Cond.fieldLink "BronzeKing$Vigil" (25 : Nat) "BronzeKing$Vigil" "unwatchedWeight" "I") ∈ lw_good := tg_1 221 rfl rfl
theorem g_222 : (Jvm.Cond.fieldLinkNest "BronzeKing" (187 : Nat) "BronzeKing$Vigil" "unwatchedWeight" "I" "BronzeKing") ∈ tables_1 := tm_1 (List.mem_of_getElem? (i := 222) rfl)
theorem g_223 : (Jvm.Cond.fieldLink "BronzeKing$Vigil" (28 : Nat) "BronzeKing$Vigil" "picked" "I") ∈ lw_good := tg_1 223 rfl rfl
theorem g_224 : (Jvm.Cond.fieldLinkNest "BronzeKing" (203 : Nat) "BronzeKing$Vigil" "picked" "I" "BronzeKing") ∈ tables_1 := tm_1 (List.mem_of_getElem? (i := 224) rfl)
theorem g_225 : (Jvm.Cond.fieldLink "BronzeKing$Vigil" (31 : Nat) "BronzeKing$Vigil" "pickedWeight" "I") ∈ lw_good := tg_1 225 rfl rfl
theorem g_226 : (Jvm.Cond.fieldLinkNest "BronzeKing" (206 : Nat) "BronzeKing$Vigil" "pickedWeight" "I" "BronzeKing") ∈ tables_1 := tm_1 (List.mem_of_getElem? (i := 226) rfl)
theorem g_244 : (Jvm.Cond.classLink "BronzeKing" (55 : Nat) "BronzeKing$Survey") ∈ lw_good := tg_2 4 rfl rfl
theorem g_245 : (Jvm.Cond.instantiable "BronzeKing$Survey" (13 : Nat)) ∈ lw_good := tg_2 5 rfl rfl
theorem g_246 : (Jvm.Cond.methodLink "BronzeKing" (57 : Nat) ({ cls := "BronzeKing$Survey", name := "<init>", desc := "(LBronzeKing$Town;)V" } : Jvm.MethodName)) ∈ lw_good := tg_2 6 rfl rfl
theorem g_247 : (Jvm.Cond.instanceMethod ({ cls := "BronzeKing$Survey", name := "<init>", desc := "(LBronzeKing$Town;)V" } : Jvm.MethodName)) ∈ lw_good := tg_2 7 rfl rfl
theorem g_248 : (Jvm.Cond.code ({ cls := "BronzeKing$Survey", name := "<init>", desc := "(LBronzeKing$Town;)V" } : Jvm.MethodName) prog_8_method_1_code (3 : Nat) (Option.none : Option Jvm.ClassFile.FieldType)) ∈ lw_good := tg_2 8 rfl rfl
theorem g_249 : (Jvm.Cond.methodLink "BronzeKing$Survey" (3 : Nat) ({ cls := "java/lang/Object", name := "<init>", desc := "()V" } : Jvm.MethodName)) ∈ lw_good := tg_2 9 rfl rfl
theorem g_250 : (Jvm.Cond.classLink "BronzeKing$Survey" (24 : Nat) "BronzeKing$PlaceSet") ∈ lw_good := tg_2 10 rfl rfl
theorem g_252 : (Jvm.Cond.methodLinkNest "BronzeKing$Survey" (30 : Nat) ({ cls := "BronzeKing$PlaceSet", name := "<init>", desc := "()V" } : Jvm.MethodName) "BronzeKing") ∈ tables_1 := tm_2 (List.mem_of_getElem? (i := 12) rfl)
theorem g_253 : (Jvm.Cond.fieldLink "BronzeKing$Survey" (54 : Nat) "BronzeKing$Survey" "town" "LBronzeKing$Town;") ∈ lw_good := tg_2 13 rfl rfl
theorem g_254 : (Jvm.Cond.fieldLink "BronzeKing$Survey" (9 : Nat) "BronzeKing$Survey" "steps" "[I") ∈ lw_good := tg_2 14 rfl rfl
theorem g_255 : (Jvm.Cond.fieldLink "BronzeKing$Survey" (15 : Nat) "BronzeKing$Survey" "walls" "[I") ∈ lw_good := tg_2 15 rfl rfl
theorem g_256 : (Jvm.Cond.fieldLink "BronzeKing$Survey" (18 : Nat) "BronzeKing$Survey" "together" "[I") ∈ lw_good := tg_2 16 rfl rfl
theorem g_257 : (Jvm.Cond.fieldLinkNest "BronzeKing" (258 : Nat) "BronzeKing$Survey" "together" "[I" "BronzeKing") ∈ tables_1 := tm_2 (List.mem_of_getElem? (i := 17) rfl)
theorem g_258 : (Jvm.Cond.fieldLink "BronzeKing$Survey" (21 : Nat) "BronzeKing$Survey" "farthest" "[I") ∈ lw_good := tg_2 18 rfl rfl
theorem g_259 : (Jvm.Cond.fieldLink "BronzeKing$Survey" (26 : Nat) "BronzeKing$Survey" "near" "[LBronzeKing$PlaceSet;") ∈ lw_good := tg_2 19 rfl rfl
theorem g_260 : (Jvm.Cond.fieldLink "BronzeKing$Survey" (31 : Nat) "BronzeKing$Survey" "some" "LBronzeKing$PlaceSet;") ∈ lw_good := tg_2 20 rfl rfl
theorem g_261 : (Jvm.Cond.fieldLink "BronzeKing$Survey" (35 : Nat) "BronzeKing$Survey" "left" "LBronzeKing$PlaceSet;") ∈ lw_good := tg_2 21 rfl rfl
theorem g_262 : (Jvm.Cond.fieldLink "BronzeKing$Survey" (38 : Nat) "BronzeKing$Survey" "firstBench" "I") ∈ lw_good := tg_2 22 rfl rfl
theorem g_263 : (Jvm.Cond.fieldLinkNest "BronzeKing" (274 : Nat) "BronzeKing$Survey" "firstBench" "I" "BronzeKing") ∈ tables_1 := tm_2 (List.mem_of_getElem? (i := 23) rfl)
theorem g_264 : (Jvm.Cond.fieldLink "BronzeKing$Survey" (42 : Nat) "BronzeKing$Survey" "secondBench" "I") ∈ lw_good := tg_2 24 rfl rfl
theorem g_265 : (Jvm.Cond.fieldLinkNest "BronzeKing" (277 : Nat) "BronzeKing$Survey" "secondBench" "I" "BronzeKing") ∈ tables_1 := tm_2 (List.mem_of_getElem? (i := 25) rfl)
theorem g_266 : (Jvm.Cond.fieldLink "BronzeKing$Survey" (45 : Nat) "BronzeKing$Survey" "nearBenches" "I") ∈ lw_good := tg_2 26 rfl rfl
theorem g_267 : (Jvm.Cond.fieldLinkNest "BronzeKing" (271 : Nat) "BronzeKing$Survey" "nearBenches" "I" "BronzeKing") ∈ tables_1 := tm_2 (List.mem_of_getElem? (i := 27) rfl)
theorem g_268 : (Jvm.Cond.fieldLink "BronzeKing$Survey" (48 : Nat) "BronzeKing$Survey" "cuts" "I") ∈ lw_good := tg_2 28 rfl rfl
theorem g_269 : (Jvm.Cond.fieldLinkNest "BronzeKing" (306 : Nat) "BronzeKing$Survey" "cuts" "I" "BronzeKing") ∈ tables_1 := tm_2 (List.mem_of_getElem? (i := 29) rfl)
theorem g_270 : (Jvm.Cond.fieldLink "BronzeKing$Survey" (51 : Nat) "BronzeKing$Survey" "lowestCut" "I") ∈ lw_good := tg_2 30 rfl rfl
theorem g_271 : (Jvm.Cond.fieldLinkNest "BronzeKing" (309 : Nat) "BronzeKing$Survey" "lowestCut" "I" "BronzeKing") ∈ tables_1 := tm_2 (List.mem_of_getElem? (i := 31) rfl)
theorem g_299 : (Jvm.Cond.classLink "BronzeKing" (64 : Nat) "BronzeKing$Hunt") ∈ lw_good := tg_2 59 rfl rfl
theorem g_300 : (Jvm.Cond.instantiable "BronzeKing$Hunt" (3 : Nat)) ∈ lw_good := tg_2 60 rfl rfl
theorem g_301 : (Jvm.Cond.methodLink "BronzeKing" (66 : Nat) ({ cls := "BronzeKing$Hunt", name := "<init>", desc := "(LBronzeKing$Town;)V" } : Jvm.MethodName)) ∈ lw_good := tg_2 61 rfl rfl
theorem g_302 : (Jvm.Cond.instanceMethod ({ cls := "BronzeKing$Hunt", name := "<init>", desc := "(LBronzeKing$Town;)V" } : Jvm.MethodName)) ∈ lw_good := tg_2 62 rfl rfl
theorem g_303 : (Jvm.Cond.code ({ cls := "BronzeKing$Hunt", name := "<init>", desc := "(LBronzeKing$Town;)V" } : Jvm.MethodName) prog_3_method_1_code (3 : Nat) (Option.none : Option Jvm.ClassFile.FieldType)) ∈ lw_good := tg_2 63 rfl rfl
theorem g_304 : (Jvm.Cond.methodLink "BronzeKing$Hunt" (3 : Nat) ({ cls := "java/lang/Object", name := "<init>", desc := "()V" } : Jvm.MethodName)) ∈ lw_good := tg_2 64 rfl rfl
theorem g_305 : (Jvm.Cond.classLink "BronzeKing$Hunt" (9 : Nat) "BronzeKing$PlaceSet") ∈ lw_good := tg_2 65 rfl rfl
theorem g_306 : (Jvm.Cond.methodLinkNest "BronzeKing$Hunt" (24 : Nat) ({ cls := "BronzeKing$PlaceSet", name := "<init>", desc := "()V" } : Jvm.MethodName) "BronzeKing") ∈ tables_1 := tm_2 (List.mem_of_getElem? (i := 66) rfl)
theorem g_307 : (Jvm.Cond.fieldLink "BronzeKing$Hunt" (20 : Nat) "BronzeKing$Hunt" "town" "LBronzeKing$Town;") ∈ lw_good := tg_2 67 rfl rfl
theorem g_308 : (Jvm.Cond.fieldLink "BronzeKing$Hunt" (11 : Nat) "BronzeKing$Hunt" "caught" "[LBronzeKing$PlaceSet;") ∈ lw_good := tg_2 68 rfl rfl
theorem g_309 : (Jvm.Cond.fieldLink "BronzeKing$Hunt" (17 : Nat) "BronzeKing$Hunt" "trapped" "[LBronzeKing$PlaceSet;") ∈ lw_good := tg_2 69 rfl rfl
theorem g_317 : (Jvm.Cond.classLink "BronzeKing" (71 : Nat) "BronzeKing$Rounds") ∈ lw_good := tg_2 77 rfl rfl
theorem g_318 : (Jvm.Cond.instantiable "BronzeKing$Rounds" (7 : Nat)) ∈ lw_good := tg_2 78 rfl rfl
theorem g_319 : (Jvm.Cond.methodLink "BronzeKing" (73 : Nat) ({ cls := "BronzeKing$Rounds", name := "<init>", desc := "(LBronzeKing$Town;)V" } : Jvm.MethodName)) ∈ lw_good := tg_2 79 rfl rfl
theorem g_320 : (Jvm.Cond.instanceMethod ({ cls := "BronzeKing$Rounds", name := "<init>", desc := "(LBronzeKing$Town;)V" } : Jvm.MethodName)) ∈ lw_good := tg_2 80 rfl rfl
theorem g_321 : (Jvm.Cond.code ({ cls := "BronzeKing$Rounds", name := "<init>", desc := "(LBronzeKing$Town;)V" } : Jvm.MethodName) prog_7_method_1_code (2 : Nat) (Option.none : Option Jvm.ClassFile.FieldType)) ∈ lw_good := tg_2 81 rfl rfl
theorem g_322 : (Jvm.Cond.methodLink "BronzeKing$Rounds" (5 : Nat) ({ cls := "java/lang/Object", name := "<init>", desc := "()V" } : Jvm.MethodName)) ∈ lw_good := tg_2 82 rfl rfl
theorem g_323 : (Jvm.Cond.fieldLink "BronzeKing$Rounds" (33 : Nat) "BronzeKing$Rounds" "town" "LBronzeKing$Town;") ∈ lw_good := tg_2 83 rfl rfl
theorem g_324 : (Jvm.Cond.fieldLink "BronzeKing$Rounds" (11 : Nat) "BronzeKing$Rounds" "best" "[J") ∈ lw_good := tg_2 84 rfl rfl
theorem g_325 : (Jvm.Cond.fieldLink "BronzeKing$Rounds" (15 : Nat) "BronzeKing$Rounds" "between" "[I") ∈ lw_good := tg_2 85 rfl rfl
theorem g_326 : (Jvm.Cond.fieldLink "BronzeKing$Rounds" (19 : Nat) "BronzeKing$Rounds" "steps" "[I") ∈ lw_good := tg_2 86 rfl rfl
theorem g_327 : (Jvm.Cond.fieldLink "BronzeKing$Rounds" (22 : Nat) "BronzeKing$Rounds" "madeAt" "I") ∈ lw_good := tg_2 87 rfl rfl
theorem g_328 : (Jvm.Cond.fieldLink "BronzeKing$Rounds" (26 : Nat) "BronzeKing$Rounds" "many" "I") ∈ lw_good := tg_2 88 rfl rfl
theorem g_329 : (Jvm.Cond.fieldLinkNest "BronzeKing" (223 : Nat) "BronzeKing$Rounds" "many" "I" "BronzeKing") ∈ tables_1 := tm_2 (List.mem_of_getElem? (i := 89) rfl)
theorem g_330 : (Jvm.Cond.fieldLink "BronzeKing$Rounds" (29 : Nat) "BronzeKing$Rounds" "chosen" "J") ∈ lw_good := tg_2 90 rfl rfl
theorem g_346 : (Jvm.Cond.arrayClass Jvm.ClassFile.FieldType.long) ∈ lw_good := tg_2 106 rfl rfl
theorem g_347 : (Jvm.Cond.classLink "BronzeKing" (78 : Nat) "BronzeKing$Course") ∈ lw_good := tg_2 107 rfl rfl
theorem g_348 : (Jvm.Cond.instantiable "BronzeKing$Course" (8 : Nat)) ∈ lw_good := tg_2 108 rfl rfl
theorem g_349 : (Jvm.Cond.methodLinkNest "BronzeKing" (80 : Nat) ({ cls := "BronzeKing$Course", name := "<init>", desc := "()V" } : Jvm.MethodName) "BronzeKing") ∈ tables_1 := tm_2 (List.mem_of_getElem? (i := 109) rfl)
theorem g_350 : (Jvm.Cond.instanceMethod ({ cls := "BronzeKing$Course", name := "<init>", desc := "()V" } : Jvm.MethodName)) ∈ lw_good := tg_2 110 rfl rfl
theorem g_351 : (Jvm.Cond.code ({ cls := "BronzeKing$Course", name := "<init>", desc := "()V" } : Jvm.MethodName) prog_2_method_1_code (1 : Nat) (Option.none : Option Jvm.ClassFile.FieldType)) ∈ lw_good := tg_2 111 rfl rfl
theorem g_352 : (Jvm.Cond.methodLink "BronzeKing$Course" (3 : Nat) ({ cls := "java/lang/Object", name := "<init>", desc := "()V" } : Jvm.MethodName)) ∈ lw_good := tg_2 112 rfl rfl
theorem g_353 : (Jvm.Cond.fieldLink "BronzeKing$Course" (9 : Nat) "BronzeKing$Course" "wear" "[I") ∈ lw_good := tg_2 113 rfl rfl
theorem g_354 : (Jvm.Cond.fieldLinkNest "BronzeKing$Walker" (116 : Nat) "BronzeKing$Course" "wear" "[I" "BronzeKing") ∈ tables_1 := tm_2 (List.mem_of_getElem? (i := 114) rfl)
theorem g_355 : (Jvm.Cond.fieldLinkNest "BronzeKing" (162 : Nat) "BronzeKing$Course" "wear" "[I" "BronzeKing") ∈ tables_1 := tm_2 (List.mem_of_getElem? (i := 115) rfl)
theorem g_356 : (Jvm.Cond.fieldLink "BronzeKing$Course" (15 : Nat) "BronzeKing$Course" "wasAt" "[I") ∈ lw_good := tg_2 116 rfl rfl
theorem g_357 : (Jvm.Cond.fieldLinkNest "BronzeKing$Walker" (82 : Nat) "BronzeKing$Course" "wasAt" "[I" "BronzeKing") ∈ tables_1 := tm_2 (List.mem_of_getElem? (i := 117) rfl)
theorem g_358 : (Jvm.Cond.fieldLinkNest "BronzeKing" (209 : Nat) "BronzeKing$Course" "wasAt" "[I" "BronzeKing") ∈ tables_1 := tm_2 (List.mem_of_getElem? (i := 118) rfl)
theorem g_359 : (Jvm.Cond.fieldLink "BronzeKing$Course" (18 : Nat) "BronzeKing$Course" "day" "I") ∈ lw_good := tg_2 119 rfl rfl
theorem g_360 : (Jvm.Cond.fieldLinkNest "BronzeKing$Walker" (23 : Nat) "BronzeKing$Course" "day" "I" "BronzeKing") ∈ tables_1 := tm_2 (List.mem_of_getElem? (i := 120) rfl)
theorem g_361 : (Jvm.Cond.fieldLinkNest "BronzeKing" (177 : Nat) "BronzeKing$Course" "day" "I" "BronzeKing") ∈ tables_1 := tm_2 (List.mem_of_getElem? (i := 121) rfl)
theorem g_362 : (Jvm.Cond.fieldLink "BronzeKing$Course" (22 : Nat) "BronzeKing$Course" "x" "I") ∈ lw_good := tg_2 122 rfl rfl
theorem g_363 : (Jvm.Cond.fieldLinkNest "BronzeKing" (313 : Nat) "BronzeKing$Course" "x" "I" "BronzeKing") ∈ tables_1 := tm_2 (List.mem_of_getElem? (i := 123) rfl)
theorem g_364 : (Jvm.Cond.fieldLink "BronzeKing$Course" (25 : Nat) "BronzeKing$Course" "hour" "I") ∈ lw_good := tg_2 124 rfl rfl
theorem g_365 : (Jvm.Cond.fieldLinkNest "BronzeKing$Walker" (36 : Nat) "BronzeKing$Course" "hour" "I" "BronzeKing") ∈ tables_1 := tm_2 (List.mem_of_getElem? (i := 125) rfl)
theorem g_366 : (Jvm.Cond.fieldLinkNest "BronzeKing" (150 : Nat) "BronzeKing$Course" "hour" "I" "BronzeKing") ∈ tables_1 := tm_2 (List.mem_of_getElem? (i := 126) rfl)
theorem g_367 : (Jvm.Cond.fieldLink "BronzeKing$Course" (28 : Nat) "BronzeKing$Course" "steps" "I") ∈ lw_good := tg_2 127 rfl rfl
theorem g_368 : (Jvm.Cond.fieldLinkNest "BronzeKing$Walker" (126 : Nat) "BronzeKing$Course" "steps" "I" "BronzeKing") ∈ tables_1 := tm_2 (List.mem_of_getElem? (i := 128) rfl)
theorem g_369 : (Jvm.Cond.fieldLinkNest "BronzeKing" (144 : Nat) "BronzeKing$Course" "steps" "I" "BronzeKing") ∈ tables_1 := tm_2 (List.mem_of_getElem? (i := 129) rfl)
theorem g_370 : (Jvm.Cond.fieldLink "BronzeKing$Course" (31 : Nat) "BronzeKing$Course" "called" "I") ∈ lw_good := tg_2 130 rfl rfl
theorem g_371 : (Jvm.Cond.fieldLinkNest "BronzeKing$Walker" (62 : Nat) "BronzeKing$Course" "called" "I" "BronzeKing") ∈ tables_1 := tm_2 (List.mem_of_getElem? (i := 131) rfl)
theorem g_372 : (Jvm.Cond.fieldLinkNest "BronzeKing" (153 : Nat) "BronzeKing$Course" "called" "I" "BronzeKing") ∈ tables_1 := tm_2 (List.mem_of_getElem? (i := 132) rfl)
theorem g_373 : (Jvm.Cond.fieldLink "BronzeKing$Course" (34 : Nat) "BronzeKing$Course" "farthest" "I") ∈ lw_good := tg_2 133 rfl rfl
theorem g_374 : (Jvm.Cond.fieldLinkNest "BronzeKing$Walker" (85 : Nat) "BronzeKing$Course" "farthest" "I" "BronzeKing") ∈ tables_1 := tm_2 (List.mem_of_getElem? (i := 134) rfl)
theorem g_375 : (Jvm.Cond.fieldLinkNest "BronzeKing" (212 : Nat) "BronzeKing$Course" "farthest" "I" "BronzeKing") ∈ tables_1 := tm_2 (List.mem_of_getElem? (i := 135) rfl)
theorem g_393 : (Jvm.Cond.methodLink "BronzeKing" (95 : Nat) ({ cls := "BronzeKing$Town", name := "refresh", desc := "()V" } : Jvm.MethodName)) ∈ lw_good := tg_2 153 rfl rfl
theorem g_394 : (Jvm.Cond.instanceMethod ({ cls := "BronzeKing$Town", name := "refresh", desc := "()V" } : Jvm.MethodName)) ∈ lw_good := tg_2 154 rfl rfl
theorem g_395 : (Jvm.Cond.selects "BronzeKing$Town" ({ cls := "BronzeKing$Town", name := "refresh", desc := "()V" } : Jvm.MethodName) ({ cls := "BronzeKing$Town", name := "refresh", desc := "()V" } : Jvm.MethodName)) ∈ lw_good := tg_2 155 rfl rfl
theorem g_396 : (Jvm.Cond.code ({ cls := "BronzeKing$Town", name := "refresh", desc := "()V" } : Jvm.MethodName) prog_10_method_2_code (2 : Nat) (Option.none : Option Jvm.ClassFile.FieldType)) ∈ lw_good := tg_2 156 rfl rfl
theorem g_397 : (Jvm.Cond.methodLink "BronzeKing$Town" (53 : Nat) ({ cls := "BronzeKing$PlaceSet", name := "clear", desc := "()V" } : Jvm.MethodName)) ∈ lw_good := tg_2 157 rfl rfl
theorem g_398 : (Jvm.Cond.instanceMethod ({ cls := "BronzeKing$PlaceSet", name := "clear", desc := "()V" } : Jvm.MethodName)) ∈ lw_good := tg_2 158 rfl rfl
theorem g_399 : (Jvm.Cond.selects "BronzeKing$PlaceSet" ({ cls := "BronzeKing$PlaceSet", name := "clear", desc := "()V" } : Jvm.MethodName) ({ cls := "BronzeKing$PlaceSet", name := "clear", desc := "()V" } : Jvm.MethodName)) ∈ lw_good := tg_2 159 rfl rfl
theorem g_400 : (Jvm.Cond.code ({ cls := "BronzeKing$PlaceSet", name := "clear", desc := "()V" } : Jvm.MethodName) prog_6_method_2_code (1 : Nat) (Option.none : Option Jvm.ClassFile.FieldType)) ∈ lw_good := tg_2 160 rfl rfl
theorem g_401 : (Jvm.Cond.methodLink "BronzeKing$Town" (56 : Nat) ({ cls := "BronzeKing$Town", name := "isOpen", desc := "(I)Z" } : Jvm.MethodName)) ∈ lw_good := tg_2 161 rfl rfl
theorem g_402 : (Jvm.Cond.instanceMethod ({ cls := "BronzeKing$Town", name := "isOpen", desc := "(I)Z" } : Jvm.MethodName)) ∈ lw_good := tg_2 162 rfl rfl
theorem g_403 : (Jvm.Cond.selects "BronzeKing$Town" ({ cls := "BronzeKing$Town", name := "isOpen", desc := "(I)Z" } : Jvm.MethodName) ({ cls := "BronzeKing$Town", name := "isOpen", desc := "(I)Z" } : Jvm.MethodName)) ∈ lw_good := tg_2 163 rfl rfl
theorem g_404 : (Jvm.Cond.code ({ cls := "BronzeKing$Town", name := "isOpen", desc := "(I)Z" } : Jvm.MethodName) prog_10_method_4_code (2 : Nat) (Option.some Jvm.ClassFile.FieldType.boolean)) ∈ lw_good := tg_2 164 rfl rfl
theorem g_405 : (Jvm.Cond.methodLink "BronzeKing$Town" (68 : Nat) ({ cls := "BronzeKing$Town", name := "kindOf", desc := "(I)I" } : Jvm.MethodName)) ∈ lw_good := tg_2 165 rfl rfl
theorem g_406 : (Jvm.Cond.instanceMethod ({ cls := "BronzeKing$Town", name := "kindOf", desc := "(I)I" } : Jvm.MethodName)) ∈ lw_good := tg_2 166 rfl rfl
theorem g_407 : (Jvm.Cond.selects "BronzeKing$Town" ({ cls := "BronzeKing$Town", name := "kindOf", desc := "(I)I" } : Jvm.MethodName) ({ cls := "BronzeKing$Town", name := "kindOf", desc := "(I)I" } : Jvm.MethodName)) ∈ lw_good := tg_2 167 rfl rfl
theorem g_408 : (Jvm.Cond.code ({ cls := "BronzeKing$Town", name := "kindOf", desc := "(I)I" } : Jvm.MethodName) prog_10_method_3_code (2 : Nat) (Option.some Jvm.ClassFile.FieldType.int)) ∈ lw_good := tg_2 168 rfl rfl
theorem g_409 : (Jvm.Cond.methodLink "BronzeKing$Town" (60 : Nat) ({ cls := "BronzeKing$PlaceSet", name := "add", desc := "(I)V" } : Jvm.MethodName)) ∈ lw_good := tg_2 169 rfl rfl
theorem g_410 : (Jvm.Cond.instanceMethod ({ cls := "BronzeKing$PlaceSet", name := "add", desc := "(I)V" } : Jvm.MethodName)) ∈ lw_good := tg_2 170 rfl rfl
theorem g_411 : (Jvm.Cond.selects "BronzeKing$PlaceSet" ({ cls := "BronzeKing$PlaceSet", name := "add", desc := "(I)V" } : Jvm.MethodName) ({ cls := "BronzeKing$PlaceSet", name := "add", desc := "(I)V" } : Jvm.MethodName)) ∈ lw_good := tg_2 171 rfl rfl
theorem g_412 : (Jvm.Cond.code ({ cls := "BronzeKing$PlaceSet", name := "add", desc := "(I)V" } : Jvm.MethodName) prog_6_method_4_code (2 : Nat) (Option.none : Option Jvm.ClassFile.FieldType)) ∈ lw_good := tg_2 172 rfl rfl
theorem g_413 : (Jvm.Cond.methodLink "BronzeKing$Town" (64 : Nat) ({ cls := "BronzeKing$Town", name := "spread", desc := "(II[I)V" } : Jvm.MethodName)) ∈ lw_good := tg_2 173 rfl rfl
theorem g_414 : (Jvm.Cond.instanceMethod ({ cls := "BronzeKing$Town", name := "spread", desc := "(II[I)V" } : Jvm.MethodName)) ∈ lw_good := tg_2 174 rfl rfl
theorem g_415 : (Jvm.Cond.selects "BronzeKing$Town" ({ cls := "BronzeKing$Town", name := "spread", desc := "(II[I)V" } : Jvm.MethodName) ({ cls := "BronzeKing$Town", name := "spread", desc := "(II[I)V" } : Jvm.MethodName)) ∈ lw_good := tg_2 175 rfl rfl
theorem g_416 : (Jvm.Cond.code ({ cls := "BronzeKing$Town", name := "spread", desc := "(II[I)V" } : Jvm.MethodName) prog_10_method_6_code (9 : Nat) (Option.none : Option Jvm.ClassFile.FieldType)) ∈ lw_good := tg_2 176 rfl rfl
theorem g_417 : (Jvm.Cond.methodLinkNest "BronzeKing$Town" (72 : Nat) ({ cls := "BronzeKing", name := "beside", desc := "(II)I" } : Jvm.MethodName) "BronzeKing") ∈ tables_1 := tm_2 (List.mem_of_getElem? (i := 177) rfl)
theorem g_418 : (Jvm.Cond.static ({ cls := "BronzeKing", name := "beside", desc := "(II)I" } : Jvm.MethodName)) ∈ lw_good := tg_2 178 rfl rfl
theorem g_419 : (Jvm.Cond.code ({ cls := "BronzeKing", name := "beside", desc := "(II)I" } : Jvm.MethodName) prog_1_method_31_code (3 : Nat) (Option.some Jvm.ClassFile.FieldType.int)) ∈ lw_good := tg_2 179 rfl rfl
theorem g_420 : (Jvm.Cond.fieldLink "BronzeKing" (10 : Nat) "BronzeKing" "tape" "LBronzeKing$Tape;") ∈ lw_good := tg_2 180 rfl rfl
theorem g_421 : (Jvm.Cond.fieldLink "BronzeKing" (19 : Nat) "BronzeKing" "town" "LBronzeKing$Town;") ∈ lw_good := tg_2 181 rfl rfl
theorem g_422 : (Jvm.Cond.fieldLink "BronzeKing" (26 : Nat) "BronzeKing" "theLaw" "LBronzeKing$Law;") ∈ lw_good := tg_2 182 rfl rfl
theorem g_423 : (Jvm.Cond.fieldLink "BronzeKing" (33 : Nat) "BronzeKing" "lawReader" "LBronzeKing$LawReader;") ∈ lw_good := tg_2 183 rfl rfl
theorem g_424 : (Jvm.Cond.fieldLink "BronzeKing" (42 : Nat) "BronzeKing" "walker" "LBronzeKing$Walker;") ∈ lw_good := tg_2 184 rfl rfl
theorem g_425 : (Jvm.Cond.fieldLink "BronzeKing" (51 : Nat) "BronzeKing" "vigil" "LBronzeKing$Vigil;") ∈ lw_good := tg_2 185 rfl rfl
theorem g_426 : (Jvm.Cond.fieldLink "BronzeKing" (60 : Nat) "BronzeKing" "survey" "LBronzeKing$Survey;") ∈ lw_good := tg_2 186 rfl rfl
theorem g_427 : (Jvm.Cond.fieldLink "BronzeKing" (67 : Nat) "BronzeKing" "hunt" "LBronzeKing$Hunt;") ∈ lw_good := tg_2 187 rfl rfl
theorem g_428 : (Jvm.Cond.fieldLink "BronzeKing" (74 : Nat) "BronzeKing" "rounds" "LBronzeKing$Rounds;") ∈ lw_good := tg_2 188 rfl rfl
theorem g_429 : (Jvm.Cond.fieldLink "BronzeKing" (81 : Nat) "BronzeKing" "now" "LBronzeKing$Course;") ∈ lw_good := tg_2 189 rfl rfl
theorem g_430 : (Jvm.Cond.fieldLink "BronzeKing" (85 : Nat) "BronzeKing" "kept" "LBronzeKing$Course;") ∈ lw_good := tg_2 190 rfl rfl
theorem g_431 : (Jvm.Cond.fieldLink "BronzeKing" (88 : Nat) "BronzeKing" "trial" "LBronzeKing$Course;") ∈ lw_good := tg_2 191 rfl rfl
theorem g_432 : (Jvm.Cond.fieldLink "BronzeKing" (91 : Nat) "BronzeKing" "hasKept" "Z") ∈ lw_good := tg_2 192 rfl rfl
theorem g_460 : (Jvm.Cond.methodLink "BronzeKingLaw" (13 : Nat) ({ cls := "BronzeKing", name := "square", desc := "(II)Z" } : Jvm.MethodName)) ∈ lw_good := tg_2 220 rfl rfl
theorem g_461 : (Jvm.Cond.instanceMethod ({ cls := "BronzeKing", name := "square", desc := "(II)Z" } : Jvm.MethodName)) ∈ lw_good := tg_2 221 rfl rfl
theorem g_462 : (Jvm.Cond.selects "BronzeKing" ({ cls := "BronzeKing", name := "square", desc := "(II)Z" } : Jvm.MethodName) ({ cls := "BronzeKing", name := "square", desc := "(II)Z" } : Jvm.MethodName)) ∈ lw_good := tg_2 222 rfl rfl
theorem g_463 : (Jvm.Cond.code ({ cls := "BronzeKing", name := "square", desc := "(II)Z" } : Jvm.MethodName) prog_1_method_2_code (4 : Nat) (Option.some Jvm.ClassFile.FieldType.boolean)) ∈ lw_good := tg_2 223 rfl rfl
theorem g_464 : (Jvm.Cond.methodLink "BronzeKing" (98 : Nat) ({ cls := "BronzeKing", name := "placeAt", desc := "(II)I" } : Jvm.MethodName)) ∈ lw_good := tg_2 224 rfl rfl
theorem g_465 : (Jvm.Cond.static ({ cls := "BronzeKing", name := "placeAt", desc := "(II)I" } : Jvm.MethodName)) ∈ lw_good := tg_2 225 rfl rfl
theorem g_466 : (Jvm.Cond.code ({ cls := "BronzeKing", name := "placeAt", desc := "(II)I" } : Jvm.MethodName) prog_1_method_30_code (3 : Nat) (Option.some Jvm.ClassFile.FieldType.int)) ∈ lw_good := tg_2 226 rfl rfl
theorem g_467 : (Jvm.Cond.methodLink "BronzeKingLaw" (18 : Nat) ({ cls := "BronzeKing", name := "door", desc := "(III)Z" } : Jvm.MethodName)) ∈ lw_good := tg_2 227 rfl rfl
theorem g_468 : (Jvm.Cond.instanceMethod ({ cls := "BronzeKing", name := "door", desc := "(III)Z" } : Jvm.MethodName)) ∈ lw_good := tg_2 228 rfl rfl
theorem g_469 : (Jvm.Cond.selects "BronzeKing" ({ cls := "BronzeKing", name := "door", desc := "(III)Z" } : Jvm.MethodName) ({ cls := "BronzeKing", name := "door", desc := "(III)Z" } : Jvm.MethodName)) ∈ lw_good := tg_2 229 rfl rfl
theorem g_470 : (Jvm.Cond.code ({ cls := "BronzeKing", name := "door", desc := "(III)Z" } : Jvm.MethodName) prog_1_method_3_code (5 : Nat) (Option.some Jvm.ClassFile.FieldType.boolean)) ∈ lw_good := tg_2 230 rfl rfl
theorem g_471 : (Jvm.Cond.methodLink "BronzeKingLaw" (23 : Nat) ({ cls := "BronzeKing", name := "feed", desc := "(IIIII)I" } : Jvm.MethodName)) ∈ lw_good := tg_2 231 rfl rfl
theorem g_472 : (Jvm.Cond.instanceMethod ({ cls := "BronzeKing", name := "feed", desc := "(IIIII)I" } : Jvm.MethodName)) ∈ lw_good := tg_2 232 rfl rfl
theorem g_473 : (Jvm.Cond.selects "BronzeKing" ({ cls := "BronzeKing", name := "feed", desc := "(IIIII)I" } : Jvm.MethodName) ({ cls := "BronzeKing", name := "feed", desc := "(IIIII)I" } : Jvm.MethodName)) ∈ lw_good := tg_2 233 rfl rfl
theorem g_474 : (Jvm.Cond.code ({ cls := "BronzeKing", name := "feed", desc := "(IIIII)I" } : Jvm.MethodName) prog_1_method_4_code (6 : Nat) (Option.some Jvm.ClassFile.FieldType.int)) ∈ lw_good := tg_2 234 rfl rfl
theorem g_475 : (Jvm.Cond.methodLink "BronzeKing" (113 : Nat) ({ cls := "BronzeKing$Tape", name := "hasRoomForFive", desc := "()Z" } : Jvm.MethodName)) ∈ lw_good := tg_2 235 rfl rfl
theorem g_476 : (Jvm.Cond.instanceMethod ({ cls := "BronzeKing$Tape", name := "hasRoomForFive", desc := "()Z" } : Jvm.MethodName)) ∈ lw_good := tg_2 236 rfl rfl
theorem g_477 : (Jvm.Cond.selects "BronzeKing$Tape" ({ cls := "BronzeKing$Tape", name := "hasRoomForFive", desc := "()Z" } : Jvm.MethodName) ({ cls := "BronzeKing$Tape", name := "hasRoomForFive", desc := "()Z" } : Jvm.MethodName)) ∈ lw_good := tg_2 237 rfl rfl
theorem g_478 : (Jvm.Cond.code ({ cls := "BronzeKing$Tape", name := "hasRoomForFive", desc := "()Z" } : Jvm.MethodName) prog_9_method_2_code (1 : Nat) (Option.some Jvm.ClassFile.FieldType.boolean)) ∈ lw_good := tg_2 238 rfl rfl
theorem g_479 : (Jvm.Cond.methodLink "BronzeKing" (117 : Nat) ({ cls := "BronzeKing$Tape", name := "addInt", desc := "(I)V" } : Jvm.MethodName)) ∈ lw_good := tg_2 239 rfl rfl
theorem g_480 : (Jvm.Cond.instanceMethod ({ cls := "BronzeKing$Tape", name := "addInt", desc := "(I)V" } : Jvm.MethodName)) ∈ lw_good := tg_3 0 rfl rfl
theorem g_481 : (Jvm.Cond.selects "BronzeKing$Tape" ({ cls := "BronzeKing$Tape", name := "addInt", desc := "(I)V" } : Jvm.MethodName) ({ cls := "BronzeKing$Tape", name := "addInt", desc := "(I)V" } : Jvm.MethodName)) ∈ lw_good := tg_3 1 rfl rfl
theorem g_482 : (Jvm.Cond.code ({ cls := "BronzeKing$Tape", name := "addInt", desc := "(I)V" } : Jvm.MethodName) prog_9_method_3_code (3 : Nat) (Option.none : Option Jvm.ClassFile.FieldType)) ∈ lw_good := tg_3 2 rfl rfl
theorem g_483 : (Jvm.Cond.methodLink "BronzeKingLaw" (28 : Nat) ({ cls := "BronzeKing", name := "law", desc := "(I)I" } : Jvm.MethodName)) ∈ lw_good := tg_3 3 rfl rfl
theorem g_484 : (Jvm.Cond.instanceMethod ({ cls := "BronzeKing", name := "law", desc := "(I)I" } : Jvm.MethodName)) ∈ lw_good := tg_3 4 rfl rfl
theorem g_485 : (Jvm.Cond.selects "BronzeKing" ({ cls := "BronzeKing", name := "law", desc := "(I)I" } : Jvm.MethodName) ({ cls := "BronzeKing", name := "law", desc := "(I)I" } : Jvm.MethodName)) ∈ lw_good := tg_3 5 rfl rfl
theorem g_486 : (Jvm.Cond.code ({ cls := "BronzeKing", name := "law", desc := "(I)I" } : Jvm.MethodName) prog_1_method_5_code (3 : Nat) (Option.some Jvm.ClassFile.FieldType.int)) ∈ lw_good := tg_3 6 rfl rfl
theorem g_487 : (Jvm.Cond.methodLink "BronzeKing" (124 : Nat) ({ cls := "BronzeKing$Tape", name := "canGive", desc := "(III)Z" } : Jvm.MethodName)) ∈ lw_good := tg_3 7 rfl rfl
theorem g_488 : (Jvm.Cond.instanceMethod ({ cls := "BronzeKing$Tape", name := "canGive", desc := "(III)Z" } : Jvm.MethodName)) ∈ lw_good := tg_3 8 rfl rfl
theorem g_489 : (Jvm.Cond.selects "BronzeKing$Tape" ({ cls := "BronzeKing$Tape", name := "canGive", desc := "(III)Z" } : Jvm.MethodName) ({ cls := "BronzeKing$Tape", name := "canGive", desc := "(III)Z" } : Jvm.MethodName)) ∈ lw_good := tg_3 9 rfl rfl
theorem g_490 : (Jvm.Cond.code ({ cls := "BronzeKing$Tape", name := "canGive", desc := "(III)Z" } : Jvm.MethodName) prog_9_method_4_code (4 : Nat) (Option.some Jvm.ClassFile.FieldType.boolean)) ∈ lw_good := tg_3 10 rfl rfl
theorem g_491 : (Jvm.Cond.methodLink "BronzeKing" (128 : Nat) ({ cls := "BronzeKing$LawReader", name := "read", desc := "(LBronzeKing$Tape;I)I" } : Jvm.MethodName)) ∈ lw_good := tg_3 11 rfl rfl
theorem g_492 : (Jvm.Cond.instanceMethod ({ cls := "BronzeKing$LawReader", name := "read", desc := "(LBronzeKing$Tape;I)I" } : Jvm.MethodName)) ∈ lw_good := tg_3 12 rfl rfl
theorem g_493 : (Jvm.Cond.selects "BronzeKing$LawReader" ({ cls := "BronzeKing$LawReader", name := "read", desc := "(LBronzeKing$Tape;I)I" } : Jvm.MethodName) ({ cls := "BronzeKing$LawReader", name := "read", desc := "(LBronzeKing$Tape;I)I" } : Jvm.MethodName)) ∈ lw_good := tg_3 13 rfl rfl
theorem g_494 : (Jvm.Cond.code ({ cls := "BronzeKing$LawReader", name := "read", desc := "(LBronzeKing$Tape;I)I" } : Jvm.MethodName) prog_5_method_2_code (5 : Nat) (Option.some Jvm.ClassFile.FieldType.int)) ∈ lw_good := tg_3 14 rfl rfl
theorem g_495 : (Jvm.Cond.methodLink "BronzeKing$LawReader" (49 : Nat) ({ cls := "BronzeKing$Tape", name := "at", desc := "(II)I" } : Jvm.MethodName)) ∈ lw_good := tg_3 15 rfl rfl
theorem g_496 : (Jvm.Cond.instanceMethod ({ cls := "BronzeKing$Tape", name := "at", desc := "(II)I" } : Jvm.MethodName)) ∈ lw_good := tg_3 16 rfl rfl
theorem g_497 : (Jvm.Cond.selects "BronzeKing$Tape" ({ cls := "BronzeKing$Tape", name := "at", desc := "(II)I" } : Jvm.MethodName) ({ cls := "BronzeKing$Tape", name := "at", desc := "(II)I" } : Jvm.MethodName)) ∈ lw_good := tg_3 17 rfl rfl
theorem g_498 : (Jvm.Cond.code ({ cls := "BronzeKing$Tape", name := "at", desc := "(II)I" } : Jvm.MethodName) prog_9_method_5_code (3 : Nat) (Option.some Jvm.ClassFile.FieldType.int)) ∈ lw_good := tg_3 18 rfl rfl
theorem g_499 : (Jvm.Cond.methodLink "BronzeKing$LawReader" (55 : Nat) ({ cls := "BronzeKing$LawReader", name := "readSign", desc := "(I)I" } : Jvm.MethodName)) ∈ lw_good := tg_3 19 rfl rfl
theorem g_501 : (Jvm.Cond.instanceMethod ({ cls := "BronzeKing$LawReader", name := "readSign", desc := "(I)I" } : Jvm.MethodName)) ∈ lw_good := tg_3 21 rfl rfl
theorem g_502 : (Jvm.Cond.code ({ cls := "BronzeKing$LawReader", name := "readSign", desc := "(I)I" } : Jvm.MethodName) prog_5_method_3_code (2 : Nat) (Option.some Jvm.ClassFile.FieldType.int)) ∈ lw_good := tg_3 22 rfl rfl
theorem g_503 : (Jvm.Cond.methodLinkNest "BronzeKing$LawReader" (62 : Nat) ({ cls := "BronzeKing", name := "isDigit", desc := "(I)Z" } : Jvm.MethodName) "BronzeKing") ∈ tables_1 := tm_3 (List.mem_of_getElem? (i := 23) rfl)
theorem g_504 : (Jvm.Cond.static ({ cls := "BronzeKing", name := "isDigit", desc := "(I)Z" } : Jvm.MethodName)) ∈ lw_good := tg_3 24 rfl rfl
theorem g_505 : (Jvm.Cond.code ({ cls := "BronzeKing", name := "isDigit", desc := "(I)Z" } : Jvm.MethodName) prog_1_method_33_code (1 : Nat) (Option.some Jvm.ClassFile.FieldType.boolean)) ∈ lw_good := tg_3 25 rfl rfl
theorem g_506 : (Jvm.Cond.methodLink "BronzeKing$LawReader" (68 : Nat) ({ cls := "BronzeKing$LawReader", name := "add", desc := "(II)V" } : Jvm.MethodName)) ∈ lw_good := tg_3 26 rfl rfl
theorem g_508 : (Jvm.Cond.instanceMethod ({ cls := "BronzeKing$LawReader", name := "add", desc := "(II)V" } : Jvm.MethodName)) ∈ lw_good := tg_3 28 rfl rfl
theorem g_509 : (Jvm.Cond.code ({ cls := "BronzeKing$LawReader", name := "add", desc := "(II)V" } : Jvm.MethodName) prog_5_method_20_code (3 : Nat) (Option.none : Option Jvm.ClassFile.FieldType)) ∈ lw_good := tg_3 29 rfl rfl
theorem g_510 : (Jvm.Cond.methodLink "BronzeKing$LawReader" (72 : Nat) ({ cls := "BronzeKing$LawReader", name := "beginRule", desc := "(I)I" } : Jvm.MethodName)) ∈ lw_good := tg_3 30 rfl rfl
theorem g_512 : (Jvm.Cond.instanceMethod ({ cls := "BronzeKing$LawReader", name := "beginRule", desc := "(I)I" } : Jvm.MethodName)) ∈ lw_good := tg_3 32 rfl rfl
theorem g_513 : (Jvm.Cond.code ({ cls := "BronzeKing$LawReader", name := "beginRule", desc := "(I)I" } : Jvm.MethodName) prog_5_method_4_code (2 : Nat) (Option.some Jvm.ClassFile.FieldType.int)) ∈ lw_good := tg_3 33 rfl rfl
theorem g_514 : (Jvm.Cond.methodLink "BronzeKing$LawReader" (75 : Nat) ({ cls := "BronzeKing$LawReader", name := "openRule", desc := "()I" } : Jvm.MethodName)) ∈ lw_good := tg_3 34 rfl rfl
theorem g_516 : (Jvm.Cond.instanceMethod ({ cls := "BronzeKing$LawReader", name := "openRule", desc := "()I" } : Jvm.MethodName)) ∈ lw_good := tg_3 36 rfl rfl
theorem g_517 : (Jvm.Cond.code ({ cls := "BronzeKing$LawReader", name := "openRule", desc := "()I" } : Jvm.MethodName) prog_5_method_5_code (1 : Nat) (Option.some Jvm.ClassFile.FieldType.int)) ∈ lw_good := tg_3 37 rfl rfl
theorem g_518 : (Jvm.Cond.methodLink "BronzeKing$LawReader" (97 : Nat) ({ cls := "BronzeKing$LawReader", name := "open", desc := "(I)I" } : Jvm.MethodName)) ∈ lw_good := tg_3 38 rfl rfl
theorem g_520 : (Jvm.Cond.instanceMethod ({ cls := "BronzeKing$LawReader", name := "open", desc := "(I)I" } : Jvm.MethodName)) ∈ lw_good := tg_3 40 rfl rfl
theorem g_521 : (Jvm.Cond.code ({ cls := "BronzeKing$LawReader", name := "open", desc := "(I)I" } : Jvm.MethodName) prog_5_method_12_code (2 : Nat) (Option.some Jvm.ClassFile.FieldType.int)) ∈ lw_good := tg_3 41 rfl rfl
theorem g_522 : (Jvm.Cond.methodLink "BronzeKing$LawReader" (130 : Nat) ({ cls := "BronzeKing$LawReader", name := "push", desc := "(I)V" } : Jvm.MethodName)) ∈ lw_good := tg_3 42 rfl rfl
theorem g_524 : (Jvm.Cond.instanceMethod ({ cls := "BronzeKing$LawReader", name := "push", desc := "(I)V" } : Jvm.MethodName)) ∈ lw_good := tg_3 44 rfl rfl
theorem g_525 : (Jvm.Cond.code ({ cls := "BronzeKing$LawReader", name := "push", desc := "(I)V" } : Jvm.MethodName) prog_5_method_19_code (2 : Nat) (Option.none : Option Jvm.ClassFile.FieldType)) ∈ lw_good := tg_3 45 rfl rfl
theorem g_526 : (Jvm.Cond.methodLink "BronzeKing$LawReader" (79 : Nat) ({ cls := "BronzeKing$LawReader", name := "beginTest", desc := "(I)I" } : Jvm.MethodName)) ∈ lw_good := tg_3 46 rfl rfl
theorem g_528 : (Jvm.Cond.instanceMethod ({ cls := "BronzeKing$LawReader", name := "beginTest", desc := "(I)I" } : Jvm.MethodName)) ∈ lw_good := tg_3 48 rfl rfl
theorem g_529 : (Jvm.Cond.code ({ cls := "BronzeKing$LawReader", name := "beginTest", desc := "(I)I" } : Jvm.MethodName) prog_5_method_6_code (2 : Nat) (Option.some Jvm.ClassFile.FieldType.int)) ∈ lw_good := tg_3 49 rfl rfl
theorem g_530 : (Jvm.Cond.methodLink "BronzeKing$LawReader" (82 : Nat) ({ cls := "BronzeKing$LawReader", name := "beginFactor", desc := "(I)I" } : Jvm.MethodName)) ∈ lw_good := tg_3 50 rfl rfl
theorem g_532 : (Jvm.Cond.instanceMethod ({ cls := "BronzeKing$LawReader", name := "beginFactor", desc := "(I)I" } : Jvm.MethodName)) ∈ lw_good := tg_3 52 rfl rfl
theorem g_533 : (Jvm.Cond.code ({ cls := "BronzeKing$LawReader", name := "beginFactor", desc := "(I)I" } : Jvm.MethodName) prog_5_method_7_code (3 : Nat) (Option.some Jvm.ClassFile.FieldType.int)) ∈ lw_good := tg_3 53 rfl rfl
theorem g_535 : (Jvm.Cond.methodLink "BronzeKing$LawReader" (102 : Nat) ({ cls := "java/lang/String", name := "indexOf", desc := "(I)I" } : Jvm.MethodName)) ∈ lw_good := tg_3 55 rfl rfl
theorem g_536 : (Jvm.Cond.instanceMethod ({ cls := "java/lang/String", name := "indexOf", desc := "(I)I" } : Jvm.MethodName)) ∈ lw_good := tg_3 56 rfl rfl
theorem g_537 : (Jvm.Cond.selects "java/lang/String" ({ cls := "java/lang/String", name := "indexOf", desc := "(I)I" } : Jvm.MethodName) ({ cls := "java/lang/String", name := "indexOf", desc := "(I)I" } : Jvm.MethodName)) ∈ lw_good := tg_3 57 rfl rfl
theorem g_538 : (Jvm.Cond.code ({ cls := "java/lang/String", name := "indexOf", desc := "(I)I" } : Jvm.MethodName) prog_19_method_79_code (2 : Nat) (Option.some Jvm.ClassFile.FieldType.int)) ∈ lw_good := tg_3 58 rfl rfl
theorem g_539 : (Jvm.Cond.methodLink "java/lang/String" (633 : Nat) ({ cls := "java/lang/String", name := "indexOf", desc := "(II)I" } : Jvm.MethodName)) ∈ lw_good := tg_3 59 rfl rfl
theorem g_540 : (Jvm.Cond.instanceMethod ({ cls := "java/lang/String", name := "indexOf", desc := "(II)I" } : Jvm.MethodName)) ∈ lw_good := tg_3 60 rfl rfl
theorem g_541 : (Jvm.Cond.selects "java/lang/String" ({ cls := "java/lang/String", name := "indexOf", desc := "(II)I" } : Jvm.MethodName) ({ cls := "java/lang/String", name := "indexOf", desc := "(II)I" } : Jvm.MethodName)) ∈ lw_good := tg_3 61 rfl rfl
theorem g_542 : (Jvm.Cond.code ({ cls := "java/lang/String", name := "indexOf", desc := "(II)I" } : Jvm.MethodName) prog_19_method_80_code (3 : Nat) (Option.some Jvm.ClassFile.FieldType.int)) ∈ lw_good := tg_3 62 rfl rfl
theorem g_543 : (Jvm.Cond.methodLink "java/lang/String" (492 : Nat) ({ cls := "java/lang/String", name := "isLatin1", desc := "()Z" } : Jvm.MethodName)) ∈ lw_good := tg_3 63 rfl rfl
theorem g_544 : (Jvm.Cond.instanceMethod ({ cls := "java/lang/String", name := "isLatin1", desc := "()Z" } : Jvm.MethodName)) ∈ lw_good := tg_3 64 rfl rfl
theorem g_545 : (Jvm.Cond.selects "java/lang/String" ({ cls := "java/lang/String", name := "isLatin1", desc := "()Z" } : Jvm.MethodName) ({ cls := "java/lang/String", name := "isLatin1", desc := "()Z" } : Jvm.MethodName)) ∈ lw_good := tg_3 65 rfl rfl
theorem g_546 : (Jvm.Cond.code ({ cls := "java/lang/String", name := "isLatin1", desc := "()Z" } : Jvm.MethodName) prog_19_method_154_code (1 : Nat) (Option.some Jvm.ClassFile.FieldType.boolean)) ∈ lw_good := tg_3 66 rfl rfl
theorem g_547 : (Jvm.Cond.fieldLink "java/lang/String" (38 : Nat) "java/lang/String" "COMPACT_STRINGS" "Z") ∈ lw_good := tg_3 67 rfl rfl
theorem g_549 : (Jvm.Cond.methodLink "java/lang/String" (505 : Nat) ({ cls := "java/lang/String", name := "length", desc := "()I" } : Jvm.MethodName)) ∈ lw_good := tg_3 69 rfl rfl
theorem g_550 : (Jvm.Cond.instanceMethod ({ cls := "java/lang/String", name := "length", desc := "()I" } : Jvm.MethodName)) ∈ lw_good := tg_3 70 rfl rfl
theorem g_551 : (Jvm.Cond.selects "java/lang/String" ({ cls := "java/lang/String", name := "length", desc := "()I" } : Jvm.MethodName) ({ cls := "java/lang/String", name := "length", desc := "()I" } : Jvm.MethodName)) ∈ lw_good := tg_3 71 rfl rfl
theorem g_552 : (Jvm.Cond.code ({ cls := "java/lang/String", name := "length", desc := "()I" } : Jvm.MethodName) prog_19_method_54_code (1 : Nat) (Option.some Jvm.ClassFile.FieldType.int)) ∈ lw_good := tg_3 72 rfl rfl
theorem g_553 : (Jvm.Cond.methodLink "java/lang/String" (335 : Nat) ({ cls := "java/lang/String", name := "coder", desc := "()B" } : Jvm.MethodName)) ∈ lw_good := tg_3 73 rfl rfl
theorem g_554 : (Jvm.Cond.instanceMethod ({ cls := "java/lang/String", name := "coder", desc := "()B" } : Jvm.MethodName)) ∈ lw_good := tg_3 74 rfl rfl
theorem g_555 : (Jvm.Cond.selects "java/lang/String" ({ cls := "java/lang/String", name := "coder", desc := "()B" } : Jvm.MethodName) ({ cls := "java/lang/String", name := "coder", desc := "()B" } : Jvm.MethodName)) ∈ lw_good := tg_3 75 rfl rfl
theorem g_556 : (Jvm.Cond.code ({ cls := "java/lang/String", name := "coder", desc := "()B" } : Jvm.MethodName) prog_19_method_152_code (1 : Nat) (Option.some Jvm.ClassFile.FieldType.byte)) ∈ lw_good := tg_3 76 rfl rfl
theorem g_557 : (Jvm.Cond.methodLink "java/lang/String" (637 : Nat) ({ cls := "java/lang/StringLatin1", name := "indexOf", desc := "([BIII)I" } : Jvm.MethodName)) ∈ lw_good := tg_3 77 rfl rfl
theorem g_558 : (Jvm.Cond.static ({ cls := "java/lang/StringLatin1", name := "indexOf", desc := "([BIII)I" } : Jvm.MethodName)) ∈ lw_good := tg_3 78 rfl rfl
theorem g_559 : (Jvm.Cond.code ({ cls := "java/lang/StringLatin1", name := "indexOf", desc := "([BIII)I" } : Jvm.MethodName) prog_20_method_22_code (4 : Nat) (Option.some Jvm.ClassFile.FieldType.int)) ∈ lw_good := tg_3 79 rfl rfl
theorem g_560 : (Jvm.Cond.methodLink "java/lang/StringLatin1" (88 : Nat) ({ cls := "java/lang/StringLatin1", name := "canEncode", desc := "(I)Z" } : Jvm.MethodName)) ∈ lw_good := tg_3 80 rfl rfl
theorem g_561 : (Jvm.Cond.static ({ cls := "java/lang/StringLatin1", name := "canEncode", desc := "(I)Z" } : Jvm.MethodName)) ∈ lw_good := tg_3 81 rfl rfl
theorem g_562 : (Jvm.Cond.code ({ cls := "java/lang/StringLatin1", name := "canEncode", desc := "(I)Z" } : Jvm.MethodName) prog_20_method_4_code (1 : Nat) (Option.some Jvm.ClassFile.FieldType.boolean)) ∈ lw_good := tg_3 82 rfl rfl
theorem g_563 : (Jvm.Cond.methodLink "java/lang/StringLatin1" (92 : Nat) ({ cls := "java/lang/Math", name := "max", desc := "(II)I" } : Jvm.MethodName)) ∈ lw_good := tg_3 83 rfl rfl
theorem g_564 : (Jvm.Cond.static ({ cls := "java/lang/Math", name := "max", desc := "(II)I" } : Jvm.MethodName)) ∈ lw_good := tg_3 84 rfl rfl
theorem g_565 : (Jvm.Cond.code ({ cls := "java/lang/Math", name := "max", desc := "(II)I" } : Jvm.MethodName) prog_18_method_65_code (2 : Nat) (Option.some Jvm.ClassFile.FieldType.int)) ∈ lw_good := tg_3 85 rfl rfl
theorem g_566 : (Jvm.Cond.methodLink "java/lang/StringLatin1" (38 : Nat) ({ cls := "java/lang/Math", name := "min", desc := "(II)I" } : Jvm.MethodName)) ∈ lw_good := tg_3 86 rfl rfl
theorem g_567 : (Jvm.Cond.static ({ cls := "java/lang/Math", name := "min", desc := "(II)I" } : Jvm.MethodName)) ∈ lw_good := tg_3 87 rfl rfl
theorem g_568 : (Jvm.Cond.code ({ cls := "java/lang/Math", name := "min", desc := "(II)I" } : Jvm.MethodName) prog_18_method_69_code (2 : Nat) (Option.some Jvm.ClassFile.FieldType.int)) ∈ lw_good := tg_3 88 rfl rfl
theorem g_569 : (Jvm.Cond.methodLink "java/lang/StringLatin1" (95 : Nat) ({ cls := "java/lang/StringLatin1", name := "indexOfChar", desc := "([BIII)I" } : Jvm.MethodName)) ∈ lw_good := tg_3 89 rfl rfl
theorem g_570 : (Jvm.Cond.static ({ cls := "java/lang/StringLatin1", name := "indexOfChar", desc := "([BIII)I" } : Jvm.MethodName)) ∈ lw_good := tg_3 90 rfl rfl
theorem g_571 : (Jvm.Cond.code ({ cls := "java/lang/StringLatin1", name := "indexOfChar", desc := "([BIII)I" } : Jvm.MethodName) prog_20_method_23_code (6 : Nat) (Option.some Jvm.ClassFile.FieldType.int)) ∈ lw_good := tg_3 91 rfl rfl
theorem g_572 : (Jvm.Cond.methodLink "java/lang/String" (640 : Nat) ({ cls := "java/lang/StringUTF16", name := "indexOf", desc := "([BIII)I" } : Jvm.MethodName)) ∈ lw_good := tg_3 92 rfl rfl
theorem g_573 : (Jvm.Cond.static ({ cls := "java/lang/StringUTF16", name := "indexOf", desc := "([BIII)I" } : Jvm.MethodName)) ∈ lw_good := tg_3 93 rfl rfl
theorem g_574 : (Jvm.Cond.code ({ cls := "java/lang/StringUTF16", name := "indexOf", desc := "([BIII)I" } : Jvm.MethodName) prog_21_method_40_code (4 : Nat) (Option.some Jvm.ClassFile.FieldType.int)) ∈ lw_good := tg_3 94 rfl rfl
theorem g_575 : (Jvm.Cond.methodLink "java/lang/StringUTF16" (224 : Nat) ({ cls := "java/lang/Math", name := "max", desc := "(II)I" } : Jvm.MethodName)) ∈ lw_good := tg_3 95 rfl rfl
theorem g_576 : (Jvm.Cond.methodLink "java/lang/StringUTF16" (183 : Nat) ({ cls := "java/lang/Math", name := "min", desc := "(II)I" } : Jvm.MethodName)) ∈ lw_good := tg_3 96 rfl rfl
theorem g_577 : (Jvm.Cond.constant "java/lang/StringUTF16" (227 : Nat) (65536 : Int32)) ∈ lw_good := tg_3 97 rfl rfl
theorem g_578 : (Jvm.Cond.methodLink "java/lang/StringUTF16" (228 : Nat) ({ cls := "java/lang/StringUTF16", name := "indexOfChar", desc := "([BIII)I" } : Jvm.MethodName)) ∈ lw_good := tg_3 98 rfl rfl
theorem g_579 : (Jvm.Cond.static ({ cls := "java/lang/StringUTF16", name := "indexOfChar", desc := "([BIII)I" } : Jvm.MethodName)) ∈ lw_good := tg_3 99 rfl rfl
theorem g_580 : (Jvm.Cond.code ({ cls := "java/lang/StringUTF16", name := "indexOfChar", desc := "([BIII)I" } : Jvm.MethodName) prog_21_method_47_code (4 : Nat) (Option.some Jvm.ClassFile.FieldType.int)) ∈ lw_good := tg_3 100 rfl rfl
theorem g_581 : (Jvm.Cond.methodLink "java/lang/StringUTF16" (96 : Nat) ({ cls := "java/lang/StringUTF16", name := "checkBoundsBeginEnd", desc := "(II[B)V" } : Jvm.MethodName)) ∈ lw_good := tg_3 101 rfl rfl
theorem g_582 : (Jvm.Cond.static ({ cls := "java/lang/StringUTF16", name := "checkBoundsBeginEnd", desc := "(II[B)V" } : Jvm.MethodName)) ∈ lw_good := tg_3 102 rfl rfl
theorem g_583 : (Jvm.Cond.code ({ cls := "java/lang/StringUTF16", name := "checkBoundsBeginEnd", desc := "(II[B)V" } : Jvm.MethodName) prog_21_method_93_code (3 : Nat) (Option.none : Option Jvm.ClassFile.FieldType)) ∈ lw_good := tg_3 103 rfl rfl
theorem g_584 : (Jvm.Cond.methodLink "java/lang/StringUTF16" (48 : Nat) ({ cls := "java/lang/StringUTF16", name := "length", desc := "([B)I" } : Jvm.MethodName)) ∈ lw_good := tg_3 104 rfl rfl
theorem g_585 : (Jvm.Cond.static ({ cls := "java/lang/StringUTF16", name := "length", desc := "([B)I" } : Jvm.MethodName)) ∈ lw_good := tg_3 105 rfl rfl
theorem g_586 : (Jvm.Cond.code ({ cls := "java/lang/StringUTF16", name := "length", desc := "([B)I" } : Jvm.MethodName) prog_21_method_6_code (1 : Nat) (Option.some Jvm.ClassFile.FieldType.int)) ∈ lw_good := tg_3 106 rfl rfl
theorem g_587 : (Jvm.Cond.methodLink "java/lang/StringUTF16" (241 : Nat) ({ cls := "java/lang/String", name := "checkBoundsBeginEnd", desc := "(III)V" } : Jvm.MethodName)) ∈ lw_good := tg_3 107 rfl rfl
theorem g_588 : (Jvm.Cond.static ({ cls := "java/lang/String", name := "checkBoundsBeginEnd", desc := "(III)V" } : Jvm.MethodName)) ∈ lw_good := tg_3 108 rfl rfl
theorem g_589 : (Jvm.Cond.code ({ cls := "java/lang/String", name := "checkBoundsBeginEnd", desc := "(III)V" } : Jvm.MethodName) prog_19_method_158_code (3 : Nat) (Option.none : Option Jvm.ClassFile.FieldType)) ∈ lw_good := tg_3 109 rfl rfl
theorem g_590 : (Jvm.Cond.fieldLink "java/lang/String" (1053 : Nat) "jdk/internal/util/Preconditions" "SIOOBE_FORMATTER" "Ljava/util/function/BiFunction;") ∈ lw_good := tg_3 110 rfl rfl
theorem g_592 : (Jvm.Cond.methodLink "java/lang/String" (1062 : Nat) ({ cls := "jdk/internal/util/Preconditions", name := "checkFromToIndex", desc := "(IIILjava/util/function/BiFunction;)I" } : Jvm.MethodName)) ∈ lw_good := tg_3 112 rfl rfl
theorem g_593 : (Jvm.Cond.static ({ cls := "jdk/internal/util/Preconditions", name := "checkFromToIndex", desc := "(IIILjava/util/function/BiFunction;)I" } : Jvm.MethodName)) ∈ lw_good := tg_3 113 rfl rfl
theorem g_594 : (Jvm.Cond.code ({ cls := "jdk/internal/util/Preconditions", name := "checkFromToIndex", desc := "(IIILjava/util/function/BiFunction;)I" } : Jvm.MethodName) prog_24_method_12_code (4 : Nat) (Option.some Jvm.ClassFile.FieldType.int)) ∈ lw_good := tg_3 114 rfl rfl
theorem g_595 : (Jvm.Cond.methodLink "java/lang/StringUTF16" (244 : Nat) ({ cls := "java/lang/StringUTF16", name := "indexOfCharUnsafe", desc := "([BIII)I" } : Jvm.MethodName)) ∈ lw_good := tg_3 115 rfl rfl
theorem g_596 : (Jvm.Cond.static ({ cls := "java/lang/StringUTF16", name := "indexOfCharUnsafe", desc := "([BIII)I" } : Jvm.MethodName)) ∈ lw_good := tg_3 116 rfl rfl
theorem g_597 : (Jvm.Cond.code ({ cls := "java/lang/StringUTF16", name := "indexOfCharUnsafe", desc := "([BIII)I" } : Jvm.MethodName) prog_21_method_48_code (5 : Nat) (Option.some Jvm.ClassFile.FieldType.int)) ∈ lw_good := tg_3 117 rfl rfl
theorem g_598 : (Jvm.Cond.methodLink "java/lang/StringUTF16" (71 : Nat) ({ cls := "java/lang/StringUTF16", name := "getChar", desc := "([BI)C" } : Jvm.MethodName)) ∈ lw_good := tg_3 118 rfl rfl
theorem g_599 : (Jvm.Cond.static ({ cls := "java/lang/StringUTF16", name := "getChar", desc := "([BI)C" } : Jvm.MethodName)) ∈ lw_good := tg_3 119 rfl rfl
theorem g_600 : (Jvm.Cond.code ({ cls := "java/lang/StringUTF16", name := "getChar", desc := "([BI)C" } : Jvm.MethodName) prog_21_method_5_code (2 : Nat) (Option.some Jvm.ClassFile.FieldType.char)) ∈ lw_good := tg_3 120 rfl rfl
theorem g_601 : (Jvm.Cond.fieldLink "java/lang/StringUTF16" (44 : Nat) "java/lang/StringUTF16" "$assertionsDisabled" "Z") ∈ lw_good := tg_3 121 rfl rfl
theorem g_603 : (Jvm.Cond.fieldLink "java/lang/StringUTF16" (59 : Nat) "java/lang/StringUTF16" "HI_BYTE_SHIFT" "I") ∈ lw_good := tg_3 123 rfl rfl
theorem g_605 : (Jvm.Cond.fieldLink "java/lang/StringUTF16" (63 : Nat) "java/lang/StringUTF16" "LO_BYTE_SHIFT" "I") ∈ lw_good := tg_3 125 rfl rfl
theorem g_607 : (Jvm.Cond.methodLink "java/lang/StringUTF16" (232 : Nat) ({ cls := "java/lang/StringUTF16", name := "indexOfSupplementary", desc := "([BIII)I" } : Jvm.MethodName)) ∈ lw_good := tg_3 127 rfl rfl
theorem g_608 : (Jvm.Cond.static ({ cls := "java/lang/StringUTF16", name := "indexOfSupplementary", desc := "([BIII)I" } : Jvm.MethodName)) ∈ lw_good := tg_3 128 rfl rfl
theorem g_609 : (Jvm.Cond.code ({ cls := "java/lang/StringUTF16", name := "indexOfSupplementary", desc := "([BIII)I" } : Jvm.MethodName) prog_21_method_49_code (7 : Nat) (Option.some Jvm.ClassFile.FieldType.int)) ∈ lw_good := tg_3 129 rfl rfl
theorem g_610 : (Jvm.Cond.methodLink "java/lang/StringUTF16" (164 : Nat) ({ cls := "java/lang/Character", name := "isValidCodePoint", desc := "(I)Z" } : Jvm.MethodName)) ∈ lw_good := tg_3 130 rfl rfl
theorem g_611 : (Jvm.Cond.static ({ cls := "java/lang/Character", name := "isValidCodePoint", desc := "(I)Z" } : Jvm.MethodName)) ∈ lw_good := tg_3 131 rfl rfl
theorem g_612 : (Jvm.Cond.code ({ cls := "java/lang/Character", name := "isValidCodePoint", desc := "(I)Z" } : Jvm.MethodName) prog_15_method_11_code (2 : Nat) (Option.some Jvm.ClassFile.FieldType.boolean)) ∈ lw_good := tg_3 132 rfl rfl
theorem g_613 : (Jvm.Cond.methodLink "java/lang/StringUTF16" (157 : Nat) ({ cls := "java/lang/Character", name := "highSurrogate", desc := "(I)C" } : Jvm.MethodName)) ∈ lw_good := tg_3 133 rfl rfl
theorem g_614 : (Jvm.Cond.static ({ cls := "java/lang/Character", name := "highSurrogate", desc := "(I)C" } : Jvm.MethodName)) ∈ lw_good := tg_3 134 rfl rfl
theorem g_615 : (Jvm.Cond.code ({ cls := "java/lang/Character", name := "highSurrogate", desc := "(I)C" } : Jvm.MethodName) prog_15_method_28_code (1 : Nat) (Option.some Jvm.ClassFile.FieldType.char)) ∈ lw_good := tg_3 135 rfl rfl
theorem g_616 : (Jvm.Cond.constant "java/lang/Character" (110 : Nat) (55232 : Int32)) ∈ lw_good := tg_3 136 rfl rfl
theorem g_617 : (Jvm.Cond.methodLink "java/lang/StringUTF16" (161 : Nat) ({ cls := "java/lang/Character", name := "lowSurrogate", desc := "(I)C" } : Jvm.MethodName)) ∈ lw_good := tg_3 137 rfl rfl
theorem g_618 : (Jvm.Cond.static ({ cls := "java/lang/Character", name := "lowSurrogate", desc := "(I)C" } : Jvm.MethodName)) ∈ lw_good := tg_3 138 rfl rfl
theorem g_619 : (Jvm.Cond.code ({ cls := "java/lang/Character", name := "lowSurrogate", desc := "(I)C" } : Jvm.MethodName) prog_15_method_29_code (1 : Nat) (Option.some Jvm.ClassFile.FieldType.char)) ∈ lw_good := tg_3 139 rfl rfl
theorem g_620 : (Jvm.Cond.constant "java/lang/Character" (76 : Nat) (56320 : Int32)) ∈ lw_good := tg_3 140 rfl rfl
theorem g_621 : (Jvm.Cond.methodLink "BronzeKing$LawReader" (85 : Nat) ({ cls := "BronzeKing$LawReader", name := "goOnNumber", desc := "(I)I" } : Jvm.MethodName)) ∈ lw_good := tg_3 141 rfl rfl
theorem g_623 : (Jvm.Cond.instanceMethod ({ cls := "BronzeKing$LawReader", name := "goOnNumber", desc := "(I)I" } : Jvm.MethodName)) ∈ lw_good := tg_3 143 rfl rfl
theorem g_624 : (Jvm.Cond.code ({ cls := "BronzeKing$LawReader", name := "goOnNumber", desc := "(I)I" } : Jvm.MethodName) prog_5_method_8_code (2 : Nat) (Option.some Jvm.ClassFile.FieldType.int)) ∈ lw_good := tg_3 144 rfl rfl
theorem g_625 : (Jvm.Cond.methodLink "BronzeKing$LawReader" (88 : Nat) ({ cls := "BronzeKing$LawReader", name := "goOnBehindFactor", desc := "(I)I" } : Jvm.MethodName)) ∈ lw_good := tg_3 145 rfl rfl
theorem g_627 : (Jvm.Cond.instanceMethod ({ cls := "BronzeKing$LawReader", name := "goOnBehindFactor", desc := "(I)I" } : Jvm.MethodName)) ∈ lw_good := tg_3 147 rfl rfl
theorem g_628 : (Jvm.Cond.code ({ cls := "BronzeKing$LawReader", name := "goOnBehindFactor", desc := "(I)I" } : Jvm.MethodName) prog_5_method_9_code (6 : Nat) (Option.some Jvm.ClassFile.FieldType.int)) ∈ lw_good := tg_3 148 rfl rfl
theorem g_630 : (Jvm.Cond.fieldLink "BronzeKing$LawReader" (109 : Nat) "BronzeKing$LawReader" "RANKS" "[I") ∈ lw_good := tg_3 150 rfl rfl
theorem g_632 : (Jvm.Cond.methodLink "BronzeKing$LawReader" (112 : Nat) ({ cls := "BronzeKing$LawReader", name := "settle", desc := "(I)V" } : Jvm.MethodName)) ∈ lw_good := tg_3 152 rfl rfl
theorem g_634 : (Jvm.Cond.instanceMethod ({ cls := "BronzeKing$LawReader", name := "settle", desc := "(I)V" } : Jvm.MethodName)) ∈ lw_good := tg_3 154 rfl rfl
theorem g_635 : (Jvm.Cond.code ({ cls := "BronzeKing$LawReader", name := "settle", desc := "(I)V" } : Jvm.MethodName) prog_5_method_15_code (4 : Nat) (Option.none : Option Jvm.ClassFile.FieldType)) ∈ lw_good := tg_3 155 rfl rfl
theorem g_636 : (Jvm.Cond.methodLink "BronzeKing$LawReader" (119 : Nat) ({ cls := "BronzeKing$LawReader", name := "innermost", desc := "()I" } : Jvm.MethodName)) ∈ lw_good := tg_3 156 rfl rfl
theorem g_638 : (Jvm.Cond.instanceMethod ({ cls := "BronzeKing$LawReader", name := "innermost", desc := "()I" } : Jvm.MethodName)) ∈ lw_good := tg_3 158 rfl rfl
theorem g_639 : (Jvm.Cond.code ({ cls := "BronzeKing$LawReader", name := "innermost", desc := "()I" } : Jvm.MethodName) prog_5_method_17_code (1 : Nat) (Option.some Jvm.ClassFile.FieldType.int)) ∈ lw_good := tg_3 159 rfl rfl
theorem g_640 : (Jvm.Cond.methodLink "BronzeKing$LawReader" (133 : Nat) ({ cls := "BronzeKing$LawReader", name := "setLeap", desc := "(II)V" } : Jvm.MethodName)) ∈ lw_good := tg_3 160 rfl rfl
theorem g_642 : (Jvm.Cond.instanceMethod ({ cls := "BronzeKing$LawReader", name := "setLeap", desc := "(II)V" } : Jvm.MethodName)) ∈ lw_good := tg_3 162 rfl rfl
theorem g_643 : (Jvm.Cond.code ({ cls := "BronzeKing$LawReader", name := "setLeap", desc := "(II)V" } : Jvm.MethodName) prog_5_method_16_code (3 : Nat) (Option.none : Option Jvm.ClassFile.FieldType)) ∈ lw_good := tg_3 163 rfl rfl
theorem g_644 : (Jvm.Cond.methodLink "BronzeKing$LawReader" (116 : Nat) ({ cls := "BronzeKing$LawReader", name := "await", desc := "(II)I" } : Jvm.MethodName)) ∈ lw_good := tg_3 164 rfl rfl
theorem g_646 : (Jvm.Cond.instanceMethod ({ cls := "BronzeKing$LawReader", name := "await", desc := "(II)I" } : Jvm.MethodName)) ∈ lw_good := tg_3 166 rfl rfl
theorem g_647 : (Jvm.Cond.code ({ cls := "BronzeKing$LawReader", name := "await", desc := "(II)I" } : Jvm.MethodName) prog_5_method_14_code (3 : Nat) (Option.some Jvm.ClassFile.FieldType.int)) ∈ lw_good := tg_3 167 rfl rfl
theorem g_649 : (Jvm.Cond.methodLink "BronzeKing$LawReader" (124 : Nat) ({ cls := "BronzeKing$LawReader", name := "isComparison", desc := "(I)Z" } : Jvm.MethodName)) ∈ lw_good := tg_3 169 rfl rfl
theorem g_650 : (Jvm.Cond.static ({ cls := "BronzeKing$LawReader", name := "isComparison", desc := "(I)Z" } : Jvm.MethodName)) ∈ lw_good := tg_3 170 rfl rfl
theorem g_651 : (Jvm.Cond.code ({ cls := "BronzeKing$LawReader", name := "isComparison", desc := "(I)Z" } : Jvm.MethodName) prog_5_method_18_code (1 : Nat) (Option.some Jvm.ClassFile.FieldType.boolean)) ∈ lw_good := tg_3 171 rfl rfl
theorem g_652 : (Jvm.Cond.methodLink "BronzeKing$LawReader" (127 : Nat) ({ cls := "BronzeKing$LawReader", name := "close", desc := "(I)I" } : Jvm.MethodName)) ∈ lw_good := tg_3 172 rfl rfl
theorem g_654 : (Jvm.Cond.instanceMethod ({ cls := "BronzeKing$LawReader", name := "close", desc := "(I)I" } : Jvm.MethodName)) ∈ lw_good := tg_3 174 rfl rfl
theorem g_655 : (Jvm.Cond.code ({ cls := "BronzeKing$LawReader", name := "close", desc := "(I)I" } : Jvm.MethodName) prog_5_method_13_code (2 : Nat) (Option.some Jvm.ClassFile.FieldType.int)) ∈ lw_good := tg_3 175 rfl rfl
theorem g_656 : (Jvm.Cond.methodLink "BronzeKing$LawReader" (91 : Nat) ({ cls := "BronzeKing$LawReader", name := "goOnBehindTest", desc := "(I)I" } : Jvm.MethodName)) ∈ lw_good := tg_3 176 rfl rfl
theorem g_658 : (Jvm.Cond.instanceMethod ({ cls := "BronzeKing$LawReader", name := "goOnBehindTest", desc := "(I)I" } : Jvm.MethodName)) ∈ lw_good := tg_3 178 rfl rfl
theorem g_659 : (Jvm.Cond.code ({ cls := "BronzeKing$LawReader", name := "goOnBehindTest", desc := "(I)I" } : Jvm.MethodName) prog_5_method_10_code (3 : Nat) (Option.some Jvm.ClassFile.FieldType.int)) ∈ lw_good := tg_3 179 rfl rfl
theorem g_660 : (Jvm.Cond.methodLink "BronzeKing$LawReader" (94 : Nat) ({ cls := "BronzeKing$LawReader", name := "endRule", desc := "(I)I" } : Jvm.MethodName)) ∈ lw_good := tg_3 180 rfl rfl
theorem g_662 : (Jvm.Cond.instanceMethod ({ cls := "BronzeKing$LawReader", name := "endRule", desc := "(I)I" } : Jvm.MethodName)) ∈ lw_good := tg_3 182 rfl rfl
theorem g_663 : (Jvm.Cond.code ({ cls := "BronzeKing$LawReader", name := "endRule", desc := "(I)I" } : Jvm.MethodName) prog_5_method_11_code (2 : Nat) (Option.some Jvm.ClassFile.FieldType.int)) ∈ lw_good := tg_3 183 rfl rfl
theorem g_664 : (Jvm.Cond.methodLinkNest "BronzeKing$LawReader" (59 : Nat) ({ cls := "BronzeKing", name := "faultAt", desc := "(II)I" } : Jvm.MethodName) "BronzeKing") ∈ tables_1 := tm_3 (List.mem_of_getElem? (i := 184) rfl)
theorem g_665 : (Jvm.Cond.static ({ cls := "BronzeKing", name := "faultAt", desc := "(II)I" } : Jvm.MethodName)) ∈ lw_good := tg_3 185 rfl rfl
theorem g_666 : (Jvm.Cond.code ({ cls := "BronzeKing", name := "faultAt", desc := "(II)I" } : Jvm.MethodName) prog_1_method_32_code (2 : Nat) (Option.some Jvm.ClassFile.FieldType.int)) ∈ lw_good := tg_3 186 rfl rfl
theorem g_667 : (Jvm.Cond.methodLink "BronzeKing" (132 : Nat) ({ cls := "BronzeKing$Law", name := "take", desc := "(LBronzeKing$LawReader;)V" } : Jvm.MethodName)) ∈ lw_good := tg_3 187 rfl rfl
theorem g_668 : (Jvm.Cond.instanceMethod ({ cls := "BronzeKing$Law", name := "take", desc := "(LBronzeKing$LawReader;)V" } : Jvm.MethodName)) ∈ lw_good := tg_3 188 rfl rfl
theorem g_669 : (Jvm.Cond.selects "BronzeKing$Law" ({ cls := "BronzeKing$Law", name := "take", desc := "(LBronzeKing$LawReader;)V" } : Jvm.MethodName) ({ cls := "BronzeKing$Law", name := "take", desc := "(LBronzeKing$LawReader;)V" } : Jvm.MethodName)) ∈ lw_good := tg_3 189 rfl rfl
theorem g_670 : (Jvm.Cond.code ({ cls := "BronzeKing$Law", name := "take", desc := "(LBronzeKing$LawReader;)V" } : Jvm.MethodName) prog_4_method_2_code (2 : Nat) (Option.none : Option Jvm.ClassFile.FieldType)) ∈ lw_good := tg_3 190 rfl rfl
theorem g_671 : (Jvm.Cond.methodLink "BronzeKing$Law" (34 : Nat) ({ cls := "java/lang/System", name := "arraycopy", desc := "(Ljava/lang/Object;ILjava/lang/Object;II)V" } : Jvm.MethodName)) ∈ lw_good := tg_3 191 rfl rfl
theorem g_672 : (Jvm.Cond.static ({ cls := "java/lang/System", name := "arraycopy", desc := "(Ljava/lang/Object;ILjava/lang/Object;II)V" } : Jvm.MethodName)) ∈ lw_good := tg_3 192 rfl rfl
theorem g_673 : (Jvm.Cond.native ({ cls := "java/lang/System", name := "arraycopy", desc := "(Ljava/lang/Object;ILjava/lang/Object;II)V" } : Jvm.MethodName)) ∈ lw_good := tg_3 193 rfl rfl
theorem g_674 : (Jvm.Cond.arrayClass Jvm.ClassFile.FieldType.byte) ∈ lw_good := tg_3 194 rfl rfl
theorem g_675 : (Jvm.Cond.methodLink "BronzeKingLaw" (33 : Nat) ({ cls := "BronzeKing", name := "map", desc := "(I)I" } : Jvm.MethodName)) ∈ lw_good := tg_3 195 rfl rfl
theorem g_676 : (Jvm.Cond.instanceMethod ({ cls := "BronzeKing", name := "map", desc := "(I)I" } : Jvm.MethodName)) ∈ lw_good := tg_3 196 rfl rfl
theorem g_677 : (Jvm.Cond.selects "BronzeKing" ({ cls := "BronzeKing", name := "map", desc := "(I)I" } : Jvm.MethodName) ({ cls := "BronzeKing", name := "map", desc := "(I)I" } : Jvm.MethodName)) ∈ lw_good := tg_3 197 rfl rfl
theorem g_678 : (Jvm.Cond.code ({ cls := "BronzeKing", name := "map", desc := "(I)I" } : Jvm.MethodName) prog_1_method_6_code (3 : Nat) (Option.some Jvm.ClassFile.FieldType.int)) ∈ lw_good := tg_3 198 rfl rfl
theorem g_679 : (Jvm.Cond.methodLink "BronzeKing" (136 : Nat) ({ cls := "BronzeKing$Town", name := "readMap", desc := "(LBronzeKing$Tape;I)I" } : Jvm.MethodName)) ∈ lw_good := tg_3 199 rfl rfl
theorem g_680 : (Jvm.Cond.instanceMethod ({ cls := "BronzeKing$Town", name := "readMap", desc := "(LBronzeKing$Tape;I)I" } : Jvm.MethodName)) ∈ lw_good := tg_3 200 rfl rfl
theorem g_681 : (Jvm.Cond.selects "BronzeKing$Town" ({ cls := "BronzeKing$Town", name := "readMap", desc := "(LBronzeKing$Tape;I)I" } : Jvm.MethodName) ({ cls := "BronzeKing$Town", name := "readMap", desc := "(LBronzeKing$Tape;I)I" } : Jvm.MethodName)) ∈ lw_good := tg_3 201 rfl rfl
theorem g_682 : (Jvm.Cond.code ({ cls := "BronzeKing$Town", name := "readMap", desc := "(LBronzeKing$Tape;I)I" } : Jvm.MethodName) prog_10_method_8_code (13 : Nat) (Option.some Jvm.ClassFile.FieldType.int)) ∈ lw_good := tg_3 202 rfl rfl
theorem g_683 : (Jvm.Cond.methodLink "BronzeKing$Town" (76 : Nat) ({ cls := "BronzeKing$Tape", name := "at", desc := "(II)I" } : Jvm.MethodName)) ∈ lw_good := tg_3 203 rfl rfl
theorem g_684 : (Jvm.Cond.methodLink "BronzeKing$Town" (81 : Nat) ({ cls := "BronzeKing$Town", name := "kindBySign", desc := "(I)I" } : Jvm.MethodName)) ∈ lw_good := tg_3 204 rfl rfl
theorem g_685 : (Jvm.Cond.static ({ cls := "BronzeKing$Town", name := "kindBySign", desc := "(I)I" } : Jvm.MethodName)) ∈ lw_good := tg_3 205 rfl rfl
theorem g_686 : (Jvm.Cond.code ({ cls := "BronzeKing$Town", name := "kindBySign", desc := "(I)I" } : Jvm.MethodName) prog_10_method_9_code (1 : Nat) (Option.some Jvm.ClassFile.FieldType.int)) ∈ lw_good := tg_3 206 rfl rfl
theorem g_687 : (Jvm.Cond.methodLinkNest "BronzeKing$Town" (84 : Nat) ({ cls := "BronzeKing", name := "faultAt", desc := "(II)I" } : Jvm.MethodName) "BronzeKing") ∈ tables_1 := tm_3 (List.mem_of_getElem? (i := 207) rfl)
theorem g_688 : (Jvm.Cond.methodLink "BronzeKing$Town" (87 : Nat) ({ cls := "java/lang/Math", name := "max", desc := "(II)I" } : Jvm.MethodName)) ∈ lw_good := tg_3 208 rfl rfl
theorem g_689 : (Jvm.Cond.methodLink "BronzeKing$Town" (92 : Nat) ({ cls := "java/lang/System", name := "arraycopy", desc := "(Ljava/lang/Object;ILjava/lang/Object;II)V" } : Jvm.MethodName)) ∈ lw_good := tg_3 209 rfl rfl
theorem g_690 : (Jvm.Cond.methodLink "BronzeKing$Town" (98 : Nat) ({ cls := "BronzeKing$Town", name := "refresh", desc := "()V" } : Jvm.MethodName)) ∈ lw_good := tg_3 210 rfl rfl
theorem g_691 : (Jvm.Cond.methodLink "BronzeKingLaw" (37 : Nat) ({ cls := "BronzeKing", name := "notes", desc := "(I)I" } : Jvm.MethodName)) ∈ lw_good := tg_3 211 rfl rfl
theorem g_692 : (Jvm.Cond.instanceMethod ({ cls := "BronzeKing", name := "notes", desc := "(I)I" } : Jvm.MethodName)) ∈ lw_good := tg_3 212 rfl rfl
theorem g_693 : (Jvm.Cond.selects "BronzeKing" ({ cls := "BronzeKing", name := "notes", desc := "(I)I" } : Jvm.MethodName) ({ cls := "BronzeKing", name := "notes", desc := "(I)I" } : Jvm.MethodName)) ∈ lw_good := tg_3 213 rfl rfl
theorem g_694 : (Jvm.Cond.code ({ cls := "BronzeKing", name := "notes", desc := "(I)I" } : Jvm.MethodName) prog_1_method_7_code (3 : Nat) (Option.some Jvm.ClassFile.FieldType.int)) ∈ lw_good := tg_3 214 rfl rfl
theorem g_695 : (Jvm.Cond.methodLink "BronzeKing" (139 : Nat) ({ cls := "BronzeKing$Vigil", name := "read", desc := "(LBronzeKing$Tape;I)I" } : Jvm.MethodName)) ∈ lw_good := tg_3 215 rfl rfl
theorem g_696 : (Jvm.Cond.instanceMethod ({ cls := "BronzeKing$Vigil", name := "read", desc := "(LBronzeKing$Tape;I)I" } : Jvm.MethodName)) ∈ lw_good := tg_3 216 rfl rfl
theorem g_697 : (Jvm.Cond.selects "BronzeKing$Vigil" ({ cls := "BronzeKing$Vigil", name := "read", desc := "(LBronzeKing$Tape;I)I" } : Jvm.MethodName) ({ cls := "BronzeKing$Vigil", name := "read", desc := "(LBronzeKing$Tape;I)I" } : Jvm.MethodName)) ∈ lw_good := tg_3 217 rfl rfl
theorem g_698 : (Jvm.Cond.code ({ cls := "BronzeKing$Vigil", name := "read", desc := "(LBronzeKing$Tape;I)I" } : Jvm.MethodName) prog_11_method_5_code (5 : Nat) (Option.some Jvm.ClassFile.FieldType.int)) ∈ lw_good := tg_3 218 rfl rfl
theorem g_699 : (Jvm.Cond.methodLink "BronzeKing$Vigil" (48 : Nat) ({ cls := "BronzeKing$Vigil", name := "readLine", desc := "(LBronzeKing$Tape;I)I" } : Jvm.MethodName)) ∈ lw_good := tg_3 219 rfl rfl
theorem g_701 : (Jvm.Cond.instanceMethod ({ cls := "BronzeKing$Vigil", name := "readLine", desc := "(LBronzeKing$Tape;I)I" } : Jvm.MethodName)) ∈ lw_good := tg_3 221 rfl rfl
theorem g_702 : (Jvm.Cond.code ({ cls := "BronzeKing$Vigil", name := "readLine", desc := "(LBronzeKing$Tape;I)I" } : Jvm.MethodName) prog_11_method_6_code (6 : Nat) (Option.some Jvm.ClassFile.FieldType.int)) ∈ lw_good := tg_3 222 rfl rfl
theorem g_703 : (Jvm.Cond.methodLink "BronzeKing$Vigil" (62 : Nat) ({ cls := "BronzeKing$Vigil", name := "readHour", desc := "(LBronzeKing$Tape;I)I" } : Jvm.MethodName)) ∈ lw_good := tg_3 223 rfl rfl
theorem g_705 : (Jvm.Cond.instanceMethod ({ cls := "BronzeKing$Vigil", name := "readHour", desc := "(LBronzeKing$Tape;I)I" } : Jvm.MethodName)) ∈ lw_good := tg_3 225 rfl rfl
theorem g_706 : (Jvm.Cond.code ({ cls := "BronzeKing$Vigil", name := "readHour", desc := "(LBronzeKing$Tape;I)I" } : Jvm.MethodName) prog_11_method_7_code (5 : Nat) (Option.some Jvm.ClassFile.FieldType.int)) ∈ lw_good := tg_3 226 rfl rfl
theorem g_707 : (Jvm.Cond.methodLink "BronzeKing$Vigil" (52 : Nat) ({ cls := "BronzeKing$Tape", name := "at", desc := "(II)I" } : Jvm.MethodName)) ∈ lw_good := tg_3 227 rfl rfl
theorem g_708 : (Jvm.Cond.methodLinkNest "BronzeKing$Vigil" (59 : Nat) ({ cls := "BronzeKing", name := "isDigit", desc := "(I)Z" } : Jvm.MethodName) "BronzeKing") ∈ tables_1 := tm_3 (List.mem_of_getElem? (i := 228) rfl)
theorem g_709 : (Jvm.Cond.methodLinkNest "BronzeKing$Vigil" (56 : Nat) ({ cls := "BronzeKing", name := "faultAt", desc := "(II)I" } : Jvm.MethodName) "BronzeKing") ∈ tables_1 := tm_3 (List.mem_of_getElem? (i := 229) rfl)
theorem g_710 : (Jvm.Cond.methodLink "BronzeKing$Vigil" (65 : Nat) ({ cls := "BronzeKing$Vigil", name := "mark", desc := "(IIZ)V" } : Jvm.MethodName)) ∈ lw_good := tg_3 230 rfl rfl
theorem g_712 : (Jvm.Cond.instanceMethod ({ cls := "BronzeKing$Vigil", name := "mark", desc := "(IIZ)V" } : Jvm.MethodName)) ∈ lw_good := tg_3 232 rfl rfl
theorem g_713 : (Jvm.Cond.code ({ cls := "BronzeKing$Vigil", name := "mark", desc := "(IIZ)V" } : Jvm.MethodName) prog_11_method_8_code (7 : Nat) (Option.none : Option Jvm.ClassFile.FieldType)) ∈ lw_good := tg_3 233 rfl rfl
theorem g_714 : (Jvm.Cond.methodLink "BronzeKing$Vigil" (69 : Nat) ({ cls := "java/lang/Math", name := "floorMod", desc := "(II)I" } : Jvm.MethodName)) ∈ lw_good := tg_3 234 rfl rfl
theorem g_715 : (Jvm.Cond.static ({ cls := "java/lang/Math", name := "floorMod", desc := "(II)I" } : Jvm.MethodName)) ∈ lw_good := tg_3 235 rfl rfl
theorem g_716 : (Jvm.Cond.code ({ cls := "java/lang/Math", name := "floorMod", desc := "(II)I" } : Jvm.MethodName) prog_18_method_50_code (3 : Nat) (Option.some Jvm.ClassFile.FieldType.int)) ∈ lw_good := tg_3 236 rfl rfl
theorem g_717 : (Jvm.Cond.methodLink "BronzeKingLaw" (41 : Nat) ({ cls := "BronzeKing", name := "days", desc := "(I)I" } : Jvm.MethodName)) ∈ lw_good := tg_3 237 rfl rfl
theorem g_718 : (Jvm.Cond.instanceMethod ({ cls := "BronzeKing", name := "days", desc := "(I)I" } : Jvm.MethodName)) ∈ lw_good := tg_3 238 rfl rfl
theorem g_719 : (Jvm.Cond.selects "BronzeKing" ({ cls := "BronzeKing", name := "days", desc := "(I)I" } : Jvm.MethodName) ({ cls := "BronzeKing", name := "days", desc := "(I)I" } : Jvm.MethodName)) ∈ lw_good := tg_3 239 rfl rfl
theorem g_720 : (Jvm.Cond.code ({ cls := "BronzeKing", name := "days", desc := "(I)I" } : Jvm.MethodName) prog_1_method_8_code (4 : Nat) (Option.some Jvm.ClassFile.FieldType.int)) ∈ lw_good := tg_4 0 rfl rfl
theorem g_721 : (Jvm.Cond.methodLink "BronzeKing" (140 : Nat) ({ cls := "BronzeKing$Walker", name := "goDay", desc := "(LBronzeKing$Course;)Z" } : Jvm.MethodName)) ∈ lw_good := tg_4 1 rfl rfl
theorem g_722 : (Jvm.Cond.instanceMethod ({ cls := "BronzeKing$Walker", name := "goDay", desc := "(LBronzeKing$Course;)Z" } : Jvm.MethodName)) ∈ lw_good := tg_4 2 rfl rfl
theorem g_723 : (Jvm.Cond.selects "BronzeKing$Walker" ({ cls := "BronzeKing$Walker", name := "goDay", desc := "(LBronzeKing$Course;)Z" } : Jvm.MethodName) ({ cls := "BronzeKing$Walker", name := "goDay", desc := "(LBronzeKing$Course;)Z" } : Jvm.MethodName)) ∈ lw_good := tg_4 3 rfl rfl
theorem g_724 : (Jvm.Cond.code ({ cls := "BronzeKing$Walker", name := "goDay", desc := "(LBronzeKing$Course;)Z" } : Jvm.MethodName) prog_12_method_2_code (2 : Nat) (Option.some Jvm.ClassFile.FieldType.boolean)) ∈ lw_good := tg_4 4 rfl rfl
theorem g_725 : (Jvm.Cond.methodLink "BronzeKing$Walker" (29 : Nat) ({ cls := "BronzeKing$Course", name := "forgetWalk", desc := "()V" } : Jvm.MethodName)) ∈ lw_good := tg_4 5 rfl rfl
theorem g_726 : (Jvm.Cond.instanceMethod ({ cls := "BronzeKing$Course", name := "forgetWalk", desc := "()V" } : Jvm.MethodName)) ∈ lw_good := tg_4 6 rfl rfl
theorem g_727 : (Jvm.Cond.selects "BronzeKing$Course" ({ cls := "BronzeKing$Course", name := "forgetWalk", desc := "()V" } : Jvm.MethodName) ({ cls := "BronzeKing$Course", name := "forgetWalk", desc := "()V" } : Jvm.MethodName)) ∈ lw_good := tg_4 7 rfl rfl
theorem g_728 : (Jvm.Cond.code ({ cls := "BronzeKing$Course", name := "forgetWalk", desc := "()V" } : Jvm.MethodName) prog_2_method_3_code (1 : Nat) (Option.none : Option Jvm.ClassFile.FieldType)) ∈ lw_good := tg_4 8 rfl rfl
theorem g_729 : (Jvm.Cond.methodLink "BronzeKing$Walker" (32 : Nat) ({ cls := "BronzeKing$Walker", name := "drawHour", desc := "(LBronzeKing$Course;)I" } : Jvm.MethodName)) ∈ lw_good := tg_4 9 rfl rfl
theorem g_731 : (Jvm.Cond.instanceMethod ({ cls := "BronzeKing$Walker", name := "drawHour", desc := "(LBronzeKing$Course;)I" } : Jvm.MethodName)) ∈ lw_good := tg_4 11 rfl rfl
theorem g_732 : (Jvm.Cond.code ({ cls := "BronzeKing$Walker", name := "drawHour", desc := "(LBronzeKing$Course;)I" } : Jvm.MethodName) prog_12_method_3_code (5 : Nat) (Option.some Jvm.ClassFile.FieldType.int)) ∈ lw_good := tg_4 12 rfl rfl
theorem g_733 : (Jvm.Cond.methodLink "BronzeKing$Walker" (43 : Nat) ({ cls := "BronzeKing$Law", name := "weightOf", desc := "(II)I" } : Jvm.MethodName)) ∈ lw_good := tg_4 13 rfl rfl
theorem g_734 : (Jvm.Cond.instanceMethod ({ cls := "BronzeKing$Law", name := "weightOf", desc := "(II)I" } : Jvm.MethodName)) ∈ lw_good := tg_4 14 rfl rfl
theorem g_735 : (Jvm.Cond.selects "BronzeKing$Law" ({ cls := "BronzeKing$Law", name := "weightOf", desc := "(II)I" } : Jvm.MethodName) ({ cls := "BronzeKing$Law", name := "weightOf", desc := "(II)I" } : Jvm.MethodName)) ∈ lw_good := tg_4 15 rfl rfl
theorem g_736 : (Jvm.Cond.code ({ cls := "BronzeKing$Law", name := "weightOf", desc := "(II)I" } : Jvm.MethodName) prog_4_method_3_code (3 : Nat) (Option.some Jvm.ClassFile.FieldType.int)) ∈ lw_good := tg_4 16 rfl rfl
theorem g_737 : (Jvm.Cond.methodLink "BronzeKing$Law" (43 : Nat) ({ cls := "java/util/Arrays", name := "fill", desc := "([II)V" } : Jvm.MethodName)) ∈ lw_good := tg_4 17 rfl rfl
theorem g_738 : (Jvm.Cond.methodLink "BronzeKing$Law" (49 : Nat) ({ cls := "BronzeKing$Law", name := "setHour", desc := "(II)V" } : Jvm.MethodName)) ∈ lw_good := tg_4 18 rfl rfl
theorem g_739 : (Jvm.Cond.instanceMethod ({ cls := "BronzeKing$Law", name := "setHour", desc := "(II)V" } : Jvm.MethodName)) ∈ lw_good := tg_4 19 rfl rfl
theorem g_740 : (Jvm.Cond.selects "BronzeKing$Law" ({ cls := "BronzeKing$Law", name := "setHour", desc := "(II)V" } : Jvm.MethodName) ({ cls := "BronzeKing$Law", name := "setHour", desc := "(II)V" } : Jvm.MethodName)) ∈ lw_good := tg_4 20 rfl rfl
theorem g_741 : (Jvm.Cond.code ({ cls := "BronzeKing$Law", name := "setHour", desc := "(II)V" } : Jvm.MethodName) prog_4_method_6_code (3 : Nat) (Option.none : Option Jvm.ClassFile.FieldType)) ∈ lw_good := tg_4 21 rfl rfl
theorem g_742 : (Jvm.Cond.methodLink "BronzeKing$Law" (53 : Nat) ({ cls := "BronzeKing$Law", name := "valueOf", desc := "(II)I" } : Jvm.MethodName)) ∈ lw_good := tg_4 22 rfl rfl
theorem g_743 : (Jvm.Cond.instanceMethod ({ cls := "BronzeKing$Law", name := "valueOf", desc := "(II)I" } : Jvm.MethodName)) ∈ lw_good := tg_4 23 rfl rfl
theorem g_744 : (Jvm.Cond.selects "BronzeKing$Law" ({ cls := "BronzeKing$Law", name := "valueOf", desc := "(II)I" } : Jvm.MethodName) ({ cls := "BronzeKing$Law", name := "valueOf", desc := "(II)I" } : Jvm.MethodName)) ∈ lw_good := tg_4 24 rfl rfl
theorem g_745 : (Jvm.Cond.code ({ cls := "BronzeKing$Law", name := "valueOf", desc := "(II)I" } : Jvm.MethodName) prog_4_method_9_code (4 : Nat) (Option.some Jvm.ClassFile.FieldType.int)) ∈ lw_good := tg_4 25 rfl rfl
theorem g_746 : (Jvm.Cond.methodLink "BronzeKing$Law" (60 : Nat) ({ cls := "BronzeKing$Law", name := "reckon", desc := "(I)I" } : Jvm.MethodName)) ∈ lw_good := tg_4 26 rfl rfl
theorem g_748 : (Jvm.Cond.instanceMethod ({ cls := "BronzeKing$Law", name := "reckon", desc := "(I)I" } : Jvm.MethodName)) ∈ lw_good := tg_4 28 rfl rfl
theorem g_749 : (Jvm.Cond.code ({ cls := "BronzeKing$Law", name := "reckon", desc := "(I)I" } : Jvm.MethodName) prog_4_method_10_code (8 : Nat) (Option.some Jvm.ClassFile.FieldType.int)) ∈ lw_good := tg_4 29 rfl rfl
theorem g_750 : (Jvm.Cond.methodLink "BronzeKing$Law" (64 : Nat) ({ cls := "java/lang/Math", name := "min", desc := "(II)I" } : Jvm.MethodName)) ∈ lw_good := tg_4 30 rfl rfl
theorem g_751 : (Jvm.Cond.methodLink "BronzeKing$Law" (69 : Nat) ({ cls := "java/lang/Math", name := "max", desc := "(II)I" } : Jvm.MethodName)) ∈ lw_good := tg_4 31 rfl rfl
theorem g_752 : (Jvm.Cond.methodLink "BronzeKing$Law" (72 : Nat) ({ cls := "BronzeKing$Law", name := "isDivision", desc := "(I)Z" } : Jvm.MethodName)) ∈ lw_good := tg_4 32 rfl rfl
theorem g_753 : (Jvm.Cond.static ({ cls := "BronzeKing$Law", name := "isDivision", desc := "(I)Z" } : Jvm.MethodName)) ∈ lw_good := tg_4 33 rfl rfl
theorem g_754 : (Jvm.Cond.code ({ cls := "BronzeKing$Law", name := "isDivision", desc := "(I)Z" } : Jvm.MethodName) prog_4_method_11_code (1 : Nat) (Option.some Jvm.ClassFile.FieldType.boolean)) ∈ lw_good := tg_4 34 rfl rfl
theorem g_755 : (Jvm.Cond.methodLink "BronzeKing$Law" (76 : Nat) ({ cls := "BronzeKing$Law", name := "joined", desc := "(III)I" } : Jvm.MethodName)) ∈ lw_good := tg_4 35 rfl rfl
theorem g_756 : (Jvm.Cond.static ({ cls := "BronzeKing$Law", name := "joined", desc := "(III)I" } : Jvm.MethodName)) ∈ lw_good := tg_4 36 rfl rfl
theorem g_757 : (Jvm.Cond.code ({ cls := "BronzeKing$Law", name := "joined", desc := "(III)I" } : Jvm.MethodName) prog_4_method_12_code (3 : Nat) (Option.some Jvm.ClassFile.FieldType.int)) ∈ lw_good := tg_4 37 rfl rfl
theorem g_758 : (Jvm.Cond.methodLink "BronzeKing$Walker" (49 : Nat) ({ cls := "BronzeKing$Course", name := "draw", desc := "()I" } : Jvm.MethodName)) ∈ lw_good := tg_4 38 rfl rfl
theorem g_759 : (Jvm.Cond.instanceMethod ({ cls := "BronzeKing$Course", name := "draw", desc := "()I" } : Jvm.MethodName)) ∈ lw_good := tg_4 39 rfl rfl
theorem g_760 : (Jvm.Cond.selects "BronzeKing$Course" ({ cls := "BronzeKing$Course", name := "draw", desc := "()I" } : Jvm.MethodName) ({ cls := "BronzeKing$Course", name := "draw", desc := "()I" } : Jvm.MethodName)) ∈ lw_good := tg_4 40 rfl rfl
theorem g_761 : (Jvm.Cond.code ({ cls := "BronzeKing$Course", name := "draw", desc := "()I" } : Jvm.MethodName) prog_2_method_4_code (1 : Nat) (Option.some Jvm.ClassFile.FieldType.int)) ∈ lw_good := tg_4 41 rfl rfl
theorem g_762 : (Jvm.Cond.constant "BronzeKing$Course" (43 : Nat) (65536 : Int32)) ∈ lw_good := tg_4 42 rfl rfl
theorem g_763 : (Jvm.Cond.methodLink "BronzeKing$Walker" (39 : Nat) ({ cls := "BronzeKing$Walker", name := "goHour", desc := "(LBronzeKing$Course;)V" } : Jvm.MethodName)) ∈ lw_good := tg_4 43 rfl rfl
theorem g_765 : (Jvm.Cond.instanceMethod ({ cls := "BronzeKing$Walker", name := "goHour", desc := "(LBronzeKing$Course;)V" } : Jvm.MethodName)) ∈ lw_good := tg_4 45 rfl rfl
theorem g_766 : (Jvm.Cond.code ({ cls := "BronzeKing$Walker", name := "goHour", desc := "(LBronzeKing$Course;)V" } : Jvm.MethodName) prog_12_method_4_code (5 : Nat) (Option.none : Option Jvm.ClassFile.FieldType)) ∈ lw_good := tg_4 46 rfl rfl
theorem g_767 : (Jvm.Cond.methodLink "BronzeKing$Walker" (58 : Nat) ({ cls := "BronzeKing$Law", name := "setHour", desc := "(II)V" } : Jvm.MethodName)) ∈ lw_good := tg_4 47 rfl rfl
theorem g_768 : (Jvm.Cond.methodLink "BronzeKing$Walker" (65 : Nat) ({ cls := "java/lang/Integer", name := "bitCount", desc := "(I)I" } : Jvm.MethodName)) ∈ lw_good := tg_4 48 rfl rfl
theorem g_769 : (Jvm.Cond.static ({ cls := "java/lang/Integer", name := "bitCount", desc := "(I)I" } : Jvm.MethodName)) ∈ lw_good := tg_4 49 rfl rfl
theorem g_770 : (Jvm.Cond.code ({ cls := "java/lang/Integer", name := "bitCount", desc := "(I)I" } : Jvm.MethodName) prog_16_method_49_code (1 : Nat) (Option.some Jvm.ClassFile.FieldType.int)) ∈ lw_good := tg_4 50 rfl rfl
theorem g_771 : (Jvm.Cond.constant "java/lang/Integer" (265 : Nat) (1431655765 : Int32)) ∈ lw_good := tg_4 51 rfl rfl
theorem g_772 : (Jvm.Cond.constant "java/lang/Integer" (266 : Nat) (858993459 : Int32)) ∈ lw_good := tg_4 52 rfl rfl
theorem g_773 : (Jvm.Cond.constant "java/lang/Integer" (267 : Nat) (252645135 : Int32)) ∈ lw_good := tg_4 53 rfl rfl
theorem g_774 : (Jvm.Cond.methodLink "BronzeKing$Walker" (71 : Nat) ({ cls := "BronzeKing$Law", name := "setMinute", desc := "(II)V" } : Jvm.MethodName)) ∈ lw_good := tg_4 54 rfl rfl
theorem g_775 : (Jvm.Cond.instanceMethod ({ cls := "BronzeKing$Law", name := "setMinute", desc := "(II)V" } : Jvm.MethodName)) ∈ lw_good := tg_4 55 rfl rfl
theorem g_776 : (Jvm.Cond.selects "BronzeKing$Law" ({ cls := "BronzeKing$Law", name := "setMinute", desc := "(II)V" } : Jvm.MethodName) ({ cls := "BronzeKing$Law", name := "setMinute", desc := "(II)V" } : Jvm.MethodName)) ∈ lw_good := tg_4 56 rfl rfl
theorem g_777 : (Jvm.Cond.code ({ cls := "BronzeKing$Law", name := "setMinute", desc := "(II)V" } : Jvm.MethodName) prog_4_method_7_code (3 : Nat) (Option.none : Option Jvm.ClassFile.FieldType)) ∈ lw_good := tg_4 57 rfl rfl
theorem g_778 : (Jvm.Cond.methodLink "BronzeKing$Walker" (74 : Nat) ({ cls := "BronzeKing$Walker", name := "nextPlace", desc := "(LBronzeKing$Course;II)I" } : Jvm.MethodName)) ∈ lw_good := tg_4 58 rfl rfl
theorem g_780 : (Jvm.Cond.instanceMethod ({ cls := "BronzeKing$Walker", name := "nextPlace", desc := "(LBronzeKing$Course;II)I" } : Jvm.MethodName)) ∈ lw_good := tg_4 60 rfl rfl
theorem g_781 : (Jvm.Cond.code ({ cls := "BronzeKing$Walker", name := "nextPlace", desc := "(LBronzeKing$Course;II)I" } : Jvm.MethodName) prog_12_method_5_code (9 : Nat) (Option.some Jvm.ClassFile.FieldType.int)) ∈ lw_good := tg_4 61 rfl rfl
theorem g_782 : (Jvm.Cond.methodLink "BronzeKing$Walker" (96 : Nat) ({ cls := "BronzeKing$Town", name := "stepHome", desc := "(I)I" } : Jvm.MethodName)) ∈ lw_good := tg_4 62 rfl rfl
theorem g_783 : (Jvm.Cond.instanceMethod ({ cls := "BronzeKing$Town", name := "stepHome", desc := "(I)I" } : Jvm.MethodName)) ∈ lw_good := tg_4 63 rfl rfl
theorem g_784 : (Jvm.Cond.selects "BronzeKing$Town" ({ cls := "BronzeKing$Town", name := "stepHome", desc := "(I)I" } : Jvm.MethodName) ({ cls := "BronzeKing$Town", name := "stepHome", desc := "(I)I" } : Jvm.MethodName)) ∈ lw_good := tg_4 64 rfl rfl
theorem g_785 : (Jvm.Cond.code ({ cls := "BronzeKing$Town", name := "stepHome", desc := "(I)I" } : Jvm.MethodName) prog_10_method_7_code (4 : Nat) (Option.some Jvm.ClassFile.FieldType.int)) ∈ lw_good := tg_4 65 rfl rfl
theorem g_786 : (Jvm.Cond.methodLink "BronzeKing$Walker" (99 : Nat) ({ cls := "BronzeKing$Walker", name := "lookAt", desc := "(LBronzeKing$Course;I)V" } : Jvm.MethodName)) ∈ lw_good := tg_4 66 rfl rfl
theorem g_788 : (Jvm.Cond.instanceMethod ({ cls := "BronzeKing$Walker", name := "lookAt", desc := "(LBronzeKing$Course;I)V" } : Jvm.MethodName)) ∈ lw_good := tg_4 68 rfl rfl
theorem g_789 : (Jvm.Cond.code ({ cls := "BronzeKing$Walker", name := "lookAt", desc := "(LBronzeKing$Course;I)V" } : Jvm.MethodName) prog_12_method_6_code (3 : Nat) (Option.none : Option Jvm.ClassFile.FieldType)) ∈ lw_good := tg_4 69 rfl rfl
theorem g_790 : (Jvm.Cond.methodLink "BronzeKing$Walker" (122 : Nat) ({ cls := "BronzeKing$Law", name := "setPlace", desc := "(IIII)V" } : Jvm.MethodName)) ∈ lw_good := tg_4 70 rfl rfl
theorem g_791 : (Jvm.Cond.instanceMethod ({ cls := "BronzeKing$Law", name := "setPlace", desc := "(IIII)V" } : Jvm.MethodName)) ∈ lw_good := tg_4 71 rfl rfl
theorem g_792 : (Jvm.Cond.selects "BronzeKing$Law" ({ cls := "BronzeKing$Law", name := "setPlace", desc := "(IIII)V" } : Jvm.MethodName) ({ cls := "BronzeKing$Law", name := "setPlace", desc := "(IIII)V" } : Jvm.MethodName)) ∈ lw_good := tg_4 72 rfl rfl
theorem g_793 : (Jvm.Cond.code ({ cls := "BronzeKing$Law", name := "setPlace", desc := "(IIII)V" } : Jvm.MethodName) prog_4_method_8_code (5 : Nat) (Option.none : Option Jvm.ClassFile.FieldType)) ∈ lw_good := tg_4 73 rfl rfl
theorem g_794 : (Jvm.Cond.methodLink "BronzeKing$Walker" (102 : Nat) ({ cls := "BronzeKing$Law", name := "standsStill", desc := "()Z" } : Jvm.MethodName)) ∈ lw_good := tg_4 74 rfl rfl
theorem g_795 : (Jvm.Cond.instanceMethod ({ cls := "BronzeKing$Law", name := "standsStill", desc := "()Z" } : Jvm.MethodName)) ∈ lw_good := tg_4 75 rfl rfl
theorem g_796 : (Jvm.Cond.selects "BronzeKing$Law" ({ cls := "BronzeKing$Law", name := "standsStill", desc := "()Z" } : Jvm.MethodName) ({ cls := "BronzeKing$Law", name := "standsStill", desc := "()Z" } : Jvm.MethodName)) ∈ lw_good := tg_4 76 rfl rfl
theorem g_797 : (Jvm.Cond.code ({ cls := "BronzeKing$Law", name := "standsStill", desc := "()Z" } : Jvm.MethodName) prog_4_method_5_code (2 : Nat) (Option.some Jvm.ClassFile.FieldType.boolean)) ∈ lw_good := tg_4 77 rfl rfl
theorem g_798 : (Jvm.Cond.methodLinkNest "BronzeKing$Walker" (106 : Nat) ({ cls := "BronzeKing", name := "beside", desc := "(II)I" } : Jvm.MethodName) "BronzeKing") ∈ tables_1 := tm_4 (List.mem_of_getElem? (i := 78) rfl)
theorem g_799 : (Jvm.Cond.methodLink "BronzeKing$Walker" (109 : Nat) ({ cls := "BronzeKing$Town", name := "isOpen", desc := "(I)Z" } : Jvm.MethodName)) ∈ lw_good := tg_4 79 rfl rfl
theorem g_800 : (Jvm.Cond.methodLink "BronzeKing$Walker" (113 : Nat) ({ cls := "BronzeKing$Law", name := "valueOf", desc := "(II)I" } : Jvm.MethodName)) ∈ lw_good := tg_4 80 rfl rfl
theorem g_801 : (Jvm.Cond.methodLink "BronzeKing$Walker" (91 : Nat) ({ cls := "java/lang/Math", name := "max", desc := "(II)I" } : Jvm.MethodName)) ∈ lw_good := tg_4 81 rfl rfl
theorem g_802 : (Jvm.Cond.methodLink "BronzeKing$Walker" (78 : Nat) ({ cls := "BronzeKing$Walker", name := "comeTo", desc := "(LBronzeKing$Course;I)V" } : Jvm.MethodName)) ∈ lw_good := tg_4 82 rfl rfl
theorem g_804 : (Jvm.Cond.instanceMethod ({ cls := "BronzeKing$Walker", name := "comeTo", desc := "(LBronzeKing$Course;I)V" } : Jvm.MethodName)) ∈ lw_good := tg_4 84 rfl rfl
theorem g_805 : (Jvm.Cond.code ({ cls := "BronzeKing$Walker", name := "comeTo", desc := "(LBronzeKing$Course;I)V" } : Jvm.MethodName) prog_12_method_7_code (4 : Nat) (Option.none : Option Jvm.ClassFile.FieldType)) ∈ lw_good := tg_4 85 rfl rfl
theorem g_806 : (Jvm.Cond.methodLink "BronzeKing$Walker" (129 : Nat) ({ cls := "java/lang/Math", name := "min", desc := "(II)I" } : Jvm.MethodName)) ∈ lw_good := tg_4 86 rfl rfl
theorem g_807 : (Jvm.Cond.methodLink "BronzeKingLaw" (45 : Nat) ({ cls := "BronzeKing", name := "tried", desc := "(II)I" } : Jvm.MethodName)) ∈ lw_good := tg_4 87 rfl rfl
theorem g_808 : (Jvm.Cond.instanceMethod ({ cls := "BronzeKing", name := "tried", desc := "(II)I" } : Jvm.MethodName)) ∈ lw_good := tg_4 88 rfl rfl
theorem g_809 : (Jvm.Cond.selects "BronzeKing" ({ cls := "BronzeKing", name := "tried", desc := "(II)I" } : Jvm.MethodName) ({ cls := "BronzeKing", name := "tried", desc := "(II)I" } : Jvm.MethodName)) ∈ lw_good := tg_4 89 rfl rfl
theorem g_810 : (Jvm.Cond.code ({ cls := "BronzeKing", name := "tried", desc := "(II)I" } : Jvm.MethodName) prog_1_method_9_code (9 : Nat) (Option.some Jvm.ClassFile.FieldType.int)) ∈ lw_good := tg_4 90 rfl rfl
theorem g_811 : (Jvm.Cond.methodLink "BronzeKing" (147 : Nat) ({ cls := "BronzeKing$Course", name := "take", desc := "(LBronzeKing$Course;)V" } : Jvm.MethodName)) ∈ lw_good := tg_4 91 rfl rfl
theorem g_812 : (Jvm.Cond.instanceMethod ({ cls := "BronzeKing$Course", name := "take", desc := "(LBronzeKing$Course;)V" } : Jvm.MethodName)) ∈ lw_good := tg_4 92 rfl rfl
theorem g_813 : (Jvm.Cond.selects "BronzeKing$Course" ({ cls := "BronzeKing$Course", name := "take", desc := "(LBronzeKing$Course;)V" } : Jvm.MethodName) ({ cls := "BronzeKing$Course", name := "take", desc := "(LBronzeKing$Course;)V" } : Jvm.MethodName)) ∈ lw_good := tg_4 93 rfl rfl
theorem g_814 : (Jvm.Cond.code ({ cls := "BronzeKing$Course", name := "take", desc := "(LBronzeKing$Course;)V" } : Jvm.MethodName) prog_2_method_2_code (2 : Nat) (Option.none : Option Jvm.ClassFile.FieldType)) ∈ lw_good := tg_4 94 rfl rfl
theorem g_815 : (Jvm.Cond.methodLink "BronzeKing$Course" (37 : Nat) ({ cls := "java/lang/System", name := "arraycopy", desc := "(Ljava/lang/Object;ILjava/lang/Object;II)V" } : Jvm.MethodName)) ∈ lw_good := tg_4 95 rfl rfl
theorem g_816 : (Jvm.Cond.methodLink "BronzeKing" (156 : Nat) ({ cls := "java/lang/Integer", name := "bitCount", desc := "(I)I" } : Jvm.MethodName)) ∈ lw_good := tg_4 96 rfl rfl
theorem g_817 : (Jvm.Cond.methodLink "BronzeKingLaw" (50 : Nat) ({ cls := "BronzeKing", name := "placeIs", desc := "(III)I" } : Jvm.MethodName)) ∈ lw_good := tg_4 97 rfl rfl
theorem g_818 : (Jvm.Cond.instanceMethod ({ cls := "BronzeKing", name := "placeIs", desc := "(III)I" } : Jvm.MethodName)) ∈ lw_good := tg_4 98 rfl rfl
theorem g_819 : (Jvm.Cond.selects "BronzeKing" ({ cls := "BronzeKing", name := "placeIs", desc := "(III)I" } : Jvm.MethodName) ({ cls := "BronzeKing", name := "placeIs", desc := "(III)I" } : Jvm.MethodName)) ∈ lw_good := tg_4 99 rfl rfl
theorem g_820 : (Jvm.Cond.code ({ cls := "BronzeKing", name := "placeIs", desc := "(III)I" } : Jvm.MethodName) prog_1_method_10_code (5 : Nat) (Option.some Jvm.ClassFile.FieldType.int)) ∈ lw_good := tg_4 100 rfl rfl
theorem g_821 : (Jvm.Cond.methodLink "BronzeKing" (165 : Nat) ({ cls := "BronzeKing$Town", name := "kindOf", desc := "(I)I" } : Jvm.MethodName)) ∈ lw_good := tg_4 101 rfl rfl
theorem g_822 : (Jvm.Cond.methodLink "BronzeKing" (174 : Nat) ({ cls := "BronzeKing$Town", name := "openBeside", desc := "(I)I" } : Jvm.MethodName)) ∈ lw_good := tg_4 102 rfl rfl
theorem g_823 : (Jvm.Cond.instanceMethod ({ cls := "BronzeKing$Town", name := "openBeside", desc := "(I)I" } : Jvm.MethodName)) ∈ lw_good := tg_4 103 rfl rfl
theorem g_824 : (Jvm.Cond.selects "BronzeKing$Town" ({ cls := "BronzeKing$Town", name := "openBeside", desc := "(I)I" } : Jvm.MethodName) ({ cls := "BronzeKing$Town", name := "openBeside", desc := "(I)I" } : Jvm.MethodName)) ∈ lw_good := tg_4 104 rfl rfl
theorem g_825 : (Jvm.Cond.code ({ cls := "BronzeKing$Town", name := "openBeside", desc := "(I)I" } : Jvm.MethodName) prog_10_method_5_code (4 : Nat) (Option.some Jvm.ClassFile.FieldType.int)) ∈ lw_good := tg_4 105 rfl rfl
theorem g_826 : (Jvm.Cond.methodLink "BronzeKingLaw" (55 : Nat) ({ cls := "BronzeKing", name := "likely", desc := "(II)I" } : Jvm.MethodName)) ∈ lw_good := tg_4 106 rfl rfl
theorem g_827 : (Jvm.Cond.instanceMethod ({ cls := "BronzeKing", name := "likely", desc := "(II)I" } : Jvm.MethodName)) ∈ lw_good := tg_4 107 rfl rfl
theorem g_828 : (Jvm.Cond.selects "BronzeKing" ({ cls := "BronzeKing", name := "likely", desc := "(II)I" } : Jvm.MethodName) ({ cls := "BronzeKing", name := "likely", desc := "(II)I" } : Jvm.MethodName)) ∈ lw_good := tg_4 108 rfl rfl
theorem g_829 : (Jvm.Cond.code ({ cls := "BronzeKing", name := "likely", desc := "(II)I" } : Jvm.MethodName) prog_1_method_11_code (3 : Nat) (Option.some Jvm.ClassFile.FieldType.int)) ∈ lw_good := tg_4 109 rfl rfl
theorem g_830 : (Jvm.Cond.methodLink "BronzeKing" (180 : Nat) ({ cls := "BronzeKing$Vigil", name := "weigh", desc := "(I)V" } : Jvm.MethodName)) ∈ lw_good := tg_4 110 rfl rfl
theorem g_831 : (Jvm.Cond.instanceMethod ({ cls := "BronzeKing$Vigil", name := "weigh", desc := "(I)V" } : Jvm.MethodName)) ∈ lw_good := tg_4 111 rfl rfl
theorem g_832 : (Jvm.Cond.selects "BronzeKing$Vigil" ({ cls := "BronzeKing$Vigil", name := "weigh", desc := "(I)V" } : Jvm.MethodName) ({ cls := "BronzeKing$Vigil", name := "weigh", desc := "(I)V" } : Jvm.MethodName)) ∈ lw_good := tg_4 112 rfl rfl
theorem g_833 : (Jvm.Cond.code ({ cls := "BronzeKing$Vigil", name := "weigh", desc := "(I)V" } : Jvm.MethodName) prog_11_method_3_code (3 : Nat) (Option.none : Option Jvm.ClassFile.FieldType)) ∈ lw_good := tg_4 113 rfl rfl
theorem g_834 : (Jvm.Cond.methodLink "BronzeKing$Vigil" (38 : Nat) ({ cls := "BronzeKing$Law", name := "weightOf", desc := "(II)I" } : Jvm.MethodName)) ∈ lw_good := tg_4 114 rfl rfl
theorem g_835 : (Jvm.Cond.methodLink "BronzeKing$Vigil" (44 : Nat) ({ cls := "BronzeKing$Vigil", name := "isWatched", desc := "(I)Z" } : Jvm.MethodName)) ∈ lw_good := tg_4 115 rfl rfl
theorem g_836 : (Jvm.Cond.instanceMethod ({ cls := "BronzeKing$Vigil", name := "isWatched", desc := "(I)Z" } : Jvm.MethodName)) ∈ lw_good := tg_4 116 rfl rfl
theorem g_837 : (Jvm.Cond.selects "BronzeKing$Vigil" ({ cls := "BronzeKing$Vigil", name := "isWatched", desc := "(I)Z" } : Jvm.MethodName) ({ cls := "BronzeKing$Vigil", name := "isWatched", desc := "(I)Z" } : Jvm.MethodName)) ∈ lw_good := tg_4 117 rfl rfl
theorem g_838 : (Jvm.Cond.code ({ cls := "BronzeKing$Vigil", name := "isWatched", desc := "(I)Z" } : Jvm.MethodName) prog_11_method_2_code (2 : Nat) (Option.some Jvm.ClassFile.FieldType.boolean)) ∈ lw_good := tg_4 118 rfl rfl
theorem g_839 : (Jvm.Cond.methodLink "BronzeKing" (183 : Nat) ({ cls := "BronzeKing$Vigil", name := "isWatched", desc := "(I)Z" } : Jvm.MethodName)) ∈ lw_good := tg_4 119 rfl rfl
theorem g_840 : (Jvm.Cond.methodLink "BronzeKing" (193 : Nat) ({ cls := "BronzeKing", name := "partOfFraction", desc := "(IIZ)I" } : Jvm.MethodName)) ∈ lw_good := tg_4 120 rfl rfl
theorem g_841 : (Jvm.Cond.static ({ cls := "BronzeKing", name := "partOfFraction", desc := "(IIZ)I" } : Jvm.MethodName)) ∈ lw_good := tg_4 121 rfl rfl
theorem g_842 : (Jvm.Cond.code ({ cls := "BronzeKing", name := "partOfFraction", desc := "(IIZ)I" } : Jvm.MethodName) prog_1_method_34_code (7 : Nat) (Option.some Jvm.ClassFile.FieldType.int)) ∈ lw_good := tg_4 122 rfl rfl
theorem g_843 : (Jvm.Cond.methodLink "BronzeKingLaw" (59 : Nat) ({ cls := "BronzeKing", name := "watch", desc := "(II)I" } : Jvm.MethodName)) ∈ lw_good := tg_4 123 rfl rfl
theorem g_844 : (Jvm.Cond.instanceMethod ({ cls := "BronzeKing", name := "watch", desc := "(II)I" } : Jvm.MethodName)) ∈ lw_good := tg_4 124 rfl rfl
theorem g_845 : (Jvm.Cond.selects "BronzeKing" ({ cls := "BronzeKing", name := "watch", desc := "(II)I" } : Jvm.MethodName) ({ cls := "BronzeKing", name := "watch", desc := "(II)I" } : Jvm.MethodName)) ∈ lw_good := tg_4 125 rfl rfl
theorem g_846 : (Jvm.Cond.code ({ cls := "BronzeKing", name := "watch", desc := "(II)I" } : Jvm.MethodName) prog_1_method_12_code (4 : Nat) (Option.some Jvm.ClassFile.FieldType.int)) ∈ lw_good := tg_4 126 rfl rfl
theorem g_847 : (Jvm.Cond.methodLink "BronzeKing" (200 : Nat) ({ cls := "BronzeKing$Vigil", name := "pickHeaviest", desc := "()V" } : Jvm.MethodName)) ∈ lw_good := tg_4 127 rfl rfl
theorem g_848 : (Jvm.Cond.instanceMethod ({ cls := "BronzeKing$Vigil", name := "pickHeaviest", desc := "()V" } : Jvm.MethodName)) ∈ lw_good := tg_4 128 rfl rfl
theorem g_849 : (Jvm.Cond.selects "BronzeKing$Vigil" ({ cls := "BronzeKing$Vigil", name := "pickHeaviest", desc := "()V" } : Jvm.MethodName) ({ cls := "BronzeKing$Vigil", name := "pickHeaviest", desc := "()V" } : Jvm.MethodName)) ∈ lw_good := tg_4 129 rfl rfl
theorem g_850 : (Jvm.Cond.code ({ cls := "BronzeKing$Vigil", name := "pickHeaviest", desc := "()V" } : Jvm.MethodName) prog_11_method_4_code (5 : Nat) (Option.none : Option Jvm.ClassFile.FieldType)) ∈ lw_good := tg_4 130 rfl rfl
theorem g_851 : (Jvm.Cond.methodLink "BronzeKingLaw" (63 : Nat) ({ cls := "BronzeKing", name := "sure", desc := "(I)I" } : Jvm.MethodName)) ∈ lw_good := tg_4 131 rfl rfl
theorem g_852 : (Jvm.Cond.instanceMethod ({ cls := "BronzeKing", name := "sure", desc := "(I)I" } : Jvm.MethodName)) ∈ lw_good := tg_4 132 rfl rfl
theorem g_853 : (Jvm.Cond.selects "BronzeKing" ({ cls := "BronzeKing", name := "sure", desc := "(I)I" } : Jvm.MethodName) ({ cls := "BronzeKing", name := "sure", desc := "(I)I" } : Jvm.MethodName)) ∈ lw_good := tg_4 133 rfl rfl
theorem g_854 : (Jvm.Cond.code ({ cls := "BronzeKing", name := "sure", desc := "(I)I" } : Jvm.MethodName) prog_1_method_13_code (3 : Nat) (Option.some Jvm.ClassFile.FieldType.int)) ∈ lw_good := tg_4 134 rfl rfl
theorem g_855 : (Jvm.Cond.methodLink "BronzeKingLaw" (67 : Nat) ({ cls := "BronzeKing", name := "walk", desc := "(I)I" } : Jvm.MethodName)) ∈ lw_good := tg_4 135 rfl rfl
theorem g_856 : (Jvm.Cond.instanceMethod ({ cls := "BronzeKing", name := "walk", desc := "(I)I" } : Jvm.MethodName)) ∈ lw_good := tg_4 136 rfl rfl
theorem g_857 : (Jvm.Cond.selects "BronzeKing" ({ cls := "BronzeKing", name := "walk", desc := "(I)I" } : Jvm.MethodName) ({ cls := "BronzeKing", name := "walk", desc := "(I)I" } : Jvm.MethodName)) ∈ lw_good := tg_4 137 rfl rfl
theorem g_858 : (Jvm.Cond.code ({ cls := "BronzeKing", name := "walk", desc := "(I)I" } : Jvm.MethodName) prog_1_method_14_code (3 : Nat) (Option.some Jvm.ClassFile.FieldType.int)) ∈ lw_good := tg_4 138 rfl rfl
theorem g_859 : (Jvm.Cond.methodLink "BronzeKingLaw" (71 : Nat) ({ cls := "BronzeKing", name := "worn", desc := "()I" } : Jvm.MethodName)) ∈ lw_good := tg_4 139 rfl rfl
theorem g_860 : (Jvm.Cond.instanceMethod ({ cls := "BronzeKing", name := "worn", desc := "()I" } : Jvm.MethodName)) ∈ lw_good := tg_4 140 rfl rfl
theorem g_861 : (Jvm.Cond.selects "BronzeKing" ({ cls := "BronzeKing", name := "worn", desc := "()I" } : Jvm.MethodName) ({ cls := "BronzeKing", name := "worn", desc := "()I" } : Jvm.MethodName)) ∈ lw_good := tg_4 141 rfl rfl
theorem g_862 : (Jvm.Cond.code ({ cls := "BronzeKing", name := "worn", desc := "()I" } : Jvm.MethodName) prog_1_method_15_code (4 : Nat) (Option.some Jvm.ClassFile.FieldType.int)) ∈ lw_good := tg_4 142 rfl rfl
theorem g_863 : (Jvm.Cond.methodLink "BronzeKingLaw" (76 : Nat) ({ cls := "BronzeKing", name := "far", desc := "(I)I" } : Jvm.MethodName)) ∈ lw_good := tg_4 143 rfl rfl
theorem g_864 : (Jvm.Cond.instanceMethod ({ cls := "BronzeKing", name := "far", desc := "(I)I" } : Jvm.MethodName)) ∈ lw_good := tg_4 144 rfl rfl
theorem g_865 : (Jvm.Cond.selects "BronzeKing" ({ cls := "BronzeKing", name := "far", desc := "(I)I" } : Jvm.MethodName) ({ cls := "BronzeKing", name := "far", desc := "(I)I" } : Jvm.MethodName)) ∈ lw_good := tg_4 145 rfl rfl
theorem g_866 : (Jvm.Cond.code ({ cls := "BronzeKing", name := "far", desc := "(I)I" } : Jvm.MethodName) prog_1_method_16_code (5 : Nat) (Option.some Jvm.ClassFile.FieldType.int)) ∈ lw_good := tg_4 146 rfl rfl
theorem g_867 : (Jvm.Cond.methodLink "BronzeKing" (215 : Nat) ({ cls := "java/lang/Math", name := "min", desc := "(II)I" } : Jvm.MethodName)) ∈ lw_good := tg_4 147 rfl rfl
theorem g_868 : (Jvm.Cond.methodLink "BronzeKingLaw" (80 : Nat) ({ cls := "BronzeKing", name := "calls", desc := "(II)I" } : Jvm.MethodName)) ∈ lw_good := tg_4 148 rfl rfl
theorem g_869 : (Jvm.Cond.instanceMethod ({ cls := "BronzeKing", name := "calls", desc := "(II)I" } : Jvm.MethodName)) ∈ lw_good := tg_4 149 rfl rfl
theorem g_870 : (Jvm.Cond.selects "BronzeKing" ({ cls := "BronzeKing", name := "calls", desc := "(II)I" } : Jvm.MethodName) ({ cls := "BronzeKing", name := "calls", desc := "(II)I" } : Jvm.MethodName)) ∈ lw_good := tg_4 150 rfl rfl
theorem g_871 : (Jvm.Cond.code ({ cls := "BronzeKing", name := "calls", desc := "(II)I" } : Jvm.MethodName) prog_1_method_17_code (4 : Nat) (Option.some Jvm.ClassFile.FieldType.int)) ∈ lw_good := tg_4 151 rfl rfl
theorem g_872 : (Jvm.Cond.methodLink "BronzeKing" (220 : Nat) ({ cls := "BronzeKing$Rounds", name := "choose", desc := "(I)V" } : Jvm.MethodName)) ∈ lw_good := tg_4 152 rfl rfl
theorem g_873 : (Jvm.Cond.instanceMethod ({ cls := "BronzeKing$Rounds", name := "choose", desc := "(I)V" } : Jvm.MethodName)) ∈ lw_good := tg_4 153 rfl rfl
theorem g_874 : (Jvm.Cond.selects "BronzeKing$Rounds" ({ cls := "BronzeKing$Rounds", name := "choose", desc := "(I)V" } : Jvm.MethodName) ({ cls := "BronzeKing$Rounds", name := "choose", desc := "(I)V" } : Jvm.MethodName)) ∈ lw_good := tg_4 154 rfl rfl
theorem g_875 : (Jvm.Cond.code ({ cls := "BronzeKing$Rounds", name := "choose", desc := "(I)V" } : Jvm.MethodName) prog_7_method_2_code (7 : Nat) (Option.none : Option Jvm.ClassFile.FieldType)) ∈ lw_good := tg_4 155 rfl rfl
theorem g_876 : (Jvm.Cond.methodLink "BronzeKing$Rounds" (42 : Nat) ({ cls := "BronzeKing$Rounds", name := "measure", desc := "()V" } : Jvm.MethodName)) ∈ lw_good := tg_4 156 rfl rfl
theorem g_878 : (Jvm.Cond.instanceMethod ({ cls := "BronzeKing$Rounds", name := "measure", desc := "()V" } : Jvm.MethodName)) ∈ lw_good := tg_4 158 rfl rfl
theorem g_879 : (Jvm.Cond.code ({ cls := "BronzeKing$Rounds", name := "measure", desc := "()V" } : Jvm.MethodName) prog_7_method_7_code (4 : Nat) (Option.none : Option Jvm.ClassFile.FieldType)) ∈ lw_good := tg_4 159 rfl rfl
theorem g_880 : (Jvm.Cond.methodLink "BronzeKing$Rounds" (73 : Nat) ({ cls := "BronzeKing$Rounds", name := "placeOf", desc := "(I)I" } : Jvm.MethodName)) ∈ lw_good := tg_4 160 rfl rfl
theorem g_882 : (Jvm.Cond.instanceMethod ({ cls := "BronzeKing$Rounds", name := "placeOf", desc := "(I)I" } : Jvm.MethodName)) ∈ lw_good := tg_4 162 rfl rfl
theorem g_883 : (Jvm.Cond.code ({ cls := "BronzeKing$Rounds", name := "placeOf", desc := "(I)I" } : Jvm.MethodName) prog_7_method_6_code (2 : Nat) (Option.some Jvm.ClassFile.FieldType.int)) ∈ lw_good := tg_4 163 rfl rfl
theorem g_884 : (Jvm.Cond.methodLink "BronzeKing$Rounds" (76 : Nat) ({ cls := "BronzeKing$Town", name := "spread", desc := "(II[I)V" } : Jvm.MethodName)) ∈ lw_good := tg_4 164 rfl rfl
theorem g_885 : (Jvm.Cond.methodLink "BronzeKing$Rounds" (45 : Nat) ({ cls := "BronzeKing$Rounds", name := "findRows", desc := "(I)V" } : Jvm.MethodName)) ∈ lw_good := tg_4 165 rfl rfl
theorem g_887 : (Jvm.Cond.instanceMethod ({ cls := "BronzeKing$Rounds", name := "findRows", desc := "(I)V" } : Jvm.MethodName)) ∈ lw_good := tg_4 167 rfl rfl
theorem g_888 : (Jvm.Cond.code ({ cls := "BronzeKing$Rounds", name := "findRows", desc := "(I)V" } : Jvm.MethodName) prog_7_method_8_code (3 : Nat) (Option.none : Option Jvm.ClassFile.FieldType)) ∈ lw_good := tg_4 168 rfl rfl
theorem g_889 : (Jvm.Cond.methodLink "BronzeKing$Rounds" (55 : Nat) ({ cls := "BronzeKing$Rounds", name := "isTold", desc := "(I)Z" } : Jvm.MethodName)) ∈ lw_good := tg_4 169 rfl rfl
theorem g_891 : (Jvm.Cond.instanceMethod ({ cls := "BronzeKing$Rounds", name := "isTold", desc := "(I)Z" } : Jvm.MethodName)) ∈ lw_good := tg_4 171 rfl rfl
theorem g_892 : (Jvm.Cond.code ({ cls := "BronzeKing$Rounds", name := "isTold", desc := "(I)Z" } : Jvm.MethodName) prog_7_method_5_code (2 : Nat) (Option.some Jvm.ClassFile.FieldType.boolean)) ∈ lw_good := tg_4 172 rfl rfl
theorem g_893 : (Jvm.Cond.methodLink "BronzeKing$Rounds" (80 : Nat) ({ cls := "BronzeKing$Rounds", name := "bestRow", desc := "(II)J" } : Jvm.MethodName)) ∈ lw_good := tg_4 173 rfl rfl
theorem g_895 : (Jvm.Cond.instanceMethod ({ cls := "BronzeKing$Rounds", name := "bestRow", desc := "(II)J" } : Jvm.MethodName)) ∈ lw_good := tg_4 175 rfl rfl
theorem g_896 : (Jvm.Cond.code ({ cls := "BronzeKing$Rounds", name := "bestRow", desc := "(II)J" } : Jvm.MethodName) prog_7_method_9_code (10 : Nat) (Option.some Jvm.ClassFile.FieldType.long)) ∈ lw_good := tg_4 176 rfl rfl
theorem g_897 : (Jvm.Cond.methodLink "BronzeKing$Rounds" (49 : Nat) ({ cls := "java/lang/Integer", name := "bitCount", desc := "(I)I" } : Jvm.MethodName)) ∈ lw_good := tg_4 177 rfl rfl
theorem g_898 : (Jvm.Cond.constantLong "BronzeKing$Rounds" (59 : Nat) (1000000000 : Int64)) ∈ lw_good := tg_4 178 rfl rfl
theorem g_899 : (Jvm.Cond.constantLong "BronzeKing$Rounds" (84 : Nat) (1000000000000000 : Int64)) ∈ lw_good := tg_4 179 rfl rfl
theorem g_900 : (Jvm.Cond.fieldLink "BronzeKing$Rounds" (61 : Nat) "BronzeKing$Rounds" "TENS" "[I") ∈ lw_good := tg_4 180 rfl rfl
theorem g_902 : (Jvm.Cond.methodLink "BronzeKing$Rounds" (86 : Nat) ({ cls := "java/lang/Math", name := "min", desc := "(JJ)J" } : Jvm.MethodName)) ∈ lw_good := tg_4 182 rfl rfl
theorem g_903 : (Jvm.Cond.static ({ cls := "java/lang/Math", name := "min", desc := "(JJ)J" } : Jvm.MethodName)) ∈ lw_good := tg_4 183 rfl rfl
theorem g_904 : (Jvm.Cond.code ({ cls := "java/lang/Math", name := "min", desc := "(JJ)J" } : Jvm.MethodName) prog_18_method_70_code (4 : Nat) (Option.some Jvm.ClassFile.FieldType.long)) ∈ lw_good := tg_4 184 rfl rfl
theorem g_905 : (Jvm.Cond.methodLink "BronzeKing" (226 : Nat) ({ cls := "BronzeKing$Rounds", name := "stepsOfBest", desc := "()I" } : Jvm.MethodName)) ∈ lw_good := tg_4 185 rfl rfl
theorem g_906 : (Jvm.Cond.instanceMethod ({ cls := "BronzeKing$Rounds", name := "stepsOfBest", desc := "()I" } : Jvm.MethodName)) ∈ lw_good := tg_4 186 rfl rfl
theorem g_907 : (Jvm.Cond.selects "BronzeKing$Rounds" ({ cls := "BronzeKing$Rounds", name := "stepsOfBest", desc := "()I" } : Jvm.MethodName) ({ cls := "BronzeKing$Rounds", name := "stepsOfBest", desc := "()I" } : Jvm.MethodName)) ∈ lw_good := tg_4 187 rfl rfl
theorem g_908 : (Jvm.Cond.code ({ cls := "BronzeKing$Rounds", name := "stepsOfBest", desc := "()I" } : Jvm.MethodName) prog_7_method_3_code (1 : Nat) (Option.some Jvm.ClassFile.FieldType.int)) ∈ lw_good := tg_4 188 rfl rfl
theorem g_909 : (Jvm.Cond.methodLink "BronzeKing" (230 : Nat) ({ cls := "BronzeKing$Rounds", name := "doorOfBest", desc := "(I)I" } : Jvm.MethodName)) ∈ lw_good := tg_4 189 rfl rfl
theorem g_910 : (Jvm.Cond.instanceMethod ({ cls := "BronzeKing$Rounds", name := "doorOfBest", desc := "(I)I" } : Jvm.MethodName)) ∈ lw_good := tg_4 190 rfl rfl
theorem g_911 : (Jvm.Cond.selects "BronzeKing$Rounds" ({ cls := "BronzeKing$Rounds", name := "doorOfBest", desc := "(I)I" } : Jvm.MethodName) ({ cls := "BronzeKing$Rounds", name := "doorOfBest", desc := "(I)I" } : Jvm.MethodName)) ∈ lw_good := tg_4 191 rfl rfl
theorem g_912 : (Jvm.Cond.code ({ cls := "BronzeKing$Rounds", name := "doorOfBest", desc := "(I)I" } : Jvm.MethodName) prog_7_method_4_code (3 : Nat) (Option.some Jvm.ClassFile.FieldType.int)) ∈ lw_good := tg_4 192 rfl rfl
theorem g_913 : (Jvm.Cond.methodLink "BronzeKingLaw" (84 : Nat) ({ cls := "BronzeKing", name := "old", desc := "(II)I" } : Jvm.MethodName)) ∈ lw_good := tg_4 193 rfl rfl
theorem g_914 : (Jvm.Cond.instanceMethod ({ cls := "BronzeKing", name := "old", desc := "(II)I" } : Jvm.MethodName)) ∈ lw_good := tg_4 194 rfl rfl
theorem g_915 : (Jvm.Cond.selects "BronzeKing" ({ cls := "BronzeKing", name := "old", desc := "(II)I" } : Jvm.MethodName) ({ cls := "BronzeKing", name := "old", desc := "(II)I" } : Jvm.MethodName)) ∈ lw_good := tg_4 195 rfl rfl
theorem g_916 : (Jvm.Cond.code ({ cls := "BronzeKing", name := "old", desc := "(II)I" } : Jvm.MethodName) prog_1_method_18_code (5 : Nat) (Option.some Jvm.ClassFile.FieldType.int)) ∈ lw_good := tg_4 196 rfl rfl
theorem g_917 : (Jvm.Cond.methodLink "BronzeKing" (233 : Nat) ({ cls := "BronzeKing$Survey", name := "stepsByOldMap", desc := "(I)I" } : Jvm.MethodName)) ∈ lw_good := tg_4 197 rfl rfl
theorem g_918 : (Jvm.Cond.instanceMethod ({ cls := "BronzeKing$Survey", name := "stepsByOldMap", desc := "(I)I" } : Jvm.MethodName)) ∈ lw_good := tg_4 198 rfl rfl
theorem g_919 : (Jvm.Cond.selects "BronzeKing$Survey" ({ cls := "BronzeKing$Survey", name := "stepsByOldMap", desc := "(I)I" } : Jvm.MethodName) ({ cls := "BronzeKing$Survey", name := "stepsByOldMap", desc := "(I)I" } : Jvm.MethodName)) ∈ lw_good := tg_4 199 rfl rfl
theorem g_920 : (Jvm.Cond.code ({ cls := "BronzeKing$Survey", name := "stepsByOldMap", desc := "(I)I" } : Jvm.MethodName) prog_8_method_2_code (2 : Nat) (Option.some Jvm.ClassFile.FieldType.int)) ∈ lw_good := tg_4 200 rfl rfl
theorem g_921 : (Jvm.Cond.methodLink "BronzeKing$Survey" (63 : Nat) ({ cls := "BronzeKing$Town", name := "spread", desc := "(II[I)V" } : Jvm.MethodName)) ∈ lw_good := tg_4 201 rfl rfl
theorem g_922 : (Jvm.Cond.methodLink "BronzeKingLaw" (88 : Nat) ({ cls := "BronzeKing", name := "barred", desc := "(III)I" } : Jvm.MethodName)) ∈ lw_good := tg_4 202 rfl rfl
theorem g_923 : (Jvm.Cond.instanceMethod ({ cls := "BronzeKing", name := "barred", desc := "(III)I" } : Jvm.MethodName)) ∈ lw_good := tg_4 203 rfl rfl
theorem g_924 : (Jvm.Cond.selects "BronzeKing" ({ cls := "BronzeKing", name := "barred", desc := "(III)I" } : Jvm.MethodName) ({ cls := "BronzeKing", name := "barred", desc := "(III)I" } : Jvm.MethodName)) ∈ lw_good := tg_4 204 rfl rfl
theorem g_925 : (Jvm.Cond.code ({ cls := "BronzeKing", name := "barred", desc := "(III)I" } : Jvm.MethodName) prog_1_method_19_code (5 : Nat) (Option.some Jvm.ClassFile.FieldType.int)) ∈ lw_good := tg_4 205 rfl rfl
theorem g_926 : (Jvm.Cond.methodLink "BronzeKing" (236 : Nat) ({ cls := "BronzeKing$Survey", name := "newWallsTo", desc := "(IZ)I" } : Jvm.MethodName)) ∈ lw_good := tg_4 206 rfl rfl
theorem g_927 : (Jvm.Cond.instanceMethod ({ cls := "BronzeKing$Survey", name := "newWallsTo", desc := "(IZ)I" } : Jvm.MethodName)) ∈ lw_good := tg_4 207 rfl rfl
theorem g_928 : (Jvm.Cond.selects "BronzeKing$Survey" ({ cls := "BronzeKing$Survey", name := "newWallsTo", desc := "(IZ)I" } : Jvm.MethodName) ({ cls := "BronzeKing$Survey", name := "newWallsTo", desc := "(IZ)I" } : Jvm.MethodName)) ∈ lw_good := tg_4 208 rfl rfl
theorem g_929 : (Jvm.Cond.code ({ cls := "BronzeKing$Survey", name := "newWallsTo", desc := "(IZ)I" } : Jvm.MethodName) prog_8_method_3_code (5 : Nat) (Option.some Jvm.ClassFile.FieldType.int)) ∈ lw_good := tg_4 209 rfl rfl
theorem g_930 : (Jvm.Cond.methodLink "BronzeKing$Survey" (67 : Nat) ({ cls := "BronzeKing$Survey", name := "stepsByOldMap", desc := "(I)I" } : Jvm.MethodName)) ∈ lw_good := tg_4 210 rfl rfl
theorem g_931 : (Jvm.Cond.methodLink "BronzeKing$Survey" (71 : Nat) ({ cls := "java/util/Arrays", name := "fill", desc := "([II)V" } : Jvm.MethodName)) ∈ lw_good := tg_4 211 rfl rfl
theorem g_932 : (Jvm.Cond.methodLink "BronzeKing$Survey" (77 : Nat) ({ cls := "BronzeKing$Survey", name := "findFewerWalls", desc := "(Z)Z" } : Jvm.MethodName)) ∈ lw_good := tg_4 212 rfl rfl
theorem g_934 : (Jvm.Cond.instanceMethod ({ cls := "BronzeKing$Survey", name := "findFewerWalls", desc := "(Z)Z" } : Jvm.MethodName)) ∈ lw_good := tg_4 214 rfl rfl
theorem g_935 : (Jvm.Cond.code ({ cls := "BronzeKing$Survey", name := "findFewerWalls", desc := "(Z)Z" } : Jvm.MethodName) prog_8_method_4_code (7 : Nat) (Option.some Jvm.ClassFile.FieldType.boolean)) ∈ lw_good := tg_4 215 rfl rfl
theorem g_936 : (Jvm.Cond.methodLinkNest "BronzeKing$Survey" (81 : Nat) ({ cls := "BronzeKing", name := "beside", desc := "(II)I" } : Jvm.MethodName) "BronzeKing") ∈ tables_1 := tm_4 (List.mem_of_getElem? (i := 216) rfl)
theorem g_937 : (Jvm.Cond.methodLink "BronzeKing$Survey" (85 : Nat) ({ cls := "BronzeKing$Town", name := "kindOf", desc := "(I)I" } : Jvm.MethodName)) ∈ lw_good := tg_4 217 rfl rfl
theorem g_938 : (Jvm.Cond.methodLink "BronzeKingLaw" (92 : Nat) ({ cls := "BronzeKing", name := "chase", desc := "(II)I" } : Jvm.MethodName)) ∈ lw_good := tg_4 218 rfl rfl
theorem g_939 : (Jvm.Cond.instanceMethod ({ cls := "BronzeKing", name := "chase", desc := "(II)I" } : Jvm.MethodName)) ∈ lw_good := tg_4 219 rfl rfl
theorem g_940 : (Jvm.Cond.selects "BronzeKing" ({ cls := "BronzeKing", name := "chase", desc := "(II)I" } : Jvm.MethodName) ({ cls := "BronzeKing", name := "chase", desc := "(II)I" } : Jvm.MethodName)) ∈ lw_good := tg_4 220 rfl rfl
theorem g_941 : (Jvm.Cond.code ({ cls := "BronzeKing", name := "chase", desc := "(II)I" } : Jvm.MethodName) prog_1_method_20_code (3 : Nat) (Option.some Jvm.ClassFile.FieldType.int)) ∈ lw_good := tg_4 221 rfl rfl
theorem g_942 : (Jvm.Cond.methodLink "BronzeKing" (240 : Nat) ({ cls := "BronzeKing$Town", name := "isOpen", desc := "(I)Z" } : Jvm.MethodName)) ∈ lw_good := tg_4 222 rfl rfl
theorem g_943 : (Jvm.Cond.methodLink "BronzeKing" (243 : Nat) ({ cls := "BronzeKing$Hunt", name := "movesToCatch", desc := "(II)I" } : Jvm.MethodName)) ∈ lw_good := tg_4 223 rfl rfl
theorem g_944 : (Jvm.Cond.instanceMethod ({ cls := "BronzeKing$Hunt", name := "movesToCatch", desc := "(II)I" } : Jvm.MethodName)) ∈ lw_good := tg_4 224 rfl rfl
theorem g_945 : (Jvm.Cond.selects "BronzeKing$Hunt" ({ cls := "BronzeKing$Hunt", name := "movesToCatch", desc := "(II)I" } : Jvm.MethodName) ({ cls := "BronzeKing$Hunt", name := "movesToCatch", desc := "(II)I" } : Jvm.MethodName)) ∈ lw_good := tg_4 225 rfl rfl
theorem g_946 : (Jvm.Cond.code ({ cls := "BronzeKing$Hunt", name := "movesToCatch", desc := "(II)I" } : Jvm.MethodName) prog_3_method_2_code (5 : Nat) (Option.some Jvm.ClassFile.FieldType.int)) ∈ lw_good := tg_4 226 rfl rfl
theorem g_947 : (Jvm.Cond.methodLink "BronzeKing$Hunt" (25 : Nat) ({ cls := "BronzeKing$PlaceSet", name := "clear", desc := "()V" } : Jvm.MethodName)) ∈ lw_good := tg_4 227 rfl rfl
theorem g_948 : (Jvm.Cond.methodLink "BronzeKing$Hunt" (28 : Nat) ({ cls := "BronzeKing$PlaceSet", name := "add", desc := "(I)V" } : Jvm.MethodName)) ∈ lw_good := tg_4 228 rfl rfl
theorem g_949 : (Jvm.Cond.methodLink "BronzeKing$Hunt" (32 : Nat) ({ cls := "BronzeKing$PlaceSet", name := "has", desc := "(I)Z" } : Jvm.MethodName)) ∈ lw_good := tg_4 229 rfl rfl
theorem g_950 : (Jvm.Cond.instanceMethod ({ cls := "BronzeKing$PlaceSet", name := "has", desc := "(I)Z" } : Jvm.MethodName)) ∈ lw_good := tg_4 230 rfl rfl
theorem g_951 : (Jvm.Cond.selects "BronzeKing$PlaceSet" ({ cls := "BronzeKing$PlaceSet", name := "has", desc := "(I)Z" } : Jvm.MethodName) ({ cls := "BronzeKing$PlaceSet", name := "has", desc := "(I)Z" } : Jvm.MethodName)) ∈ lw_good := tg_4 231 rfl rfl
theorem g_952 : (Jvm.Cond.code ({ cls := "BronzeKing$PlaceSet", name := "has", desc := "(I)Z" } : Jvm.MethodName) prog_6_method_6_code (4 : Nat) (Option.some Jvm.ClassFile.FieldType.boolean)) ∈ lw_good := tg_4 232 rfl rfl
theorem g_953 : (Jvm.Cond.methodLink "BronzeKing$Hunt" (36 : Nat) ({ cls := "BronzeKing$Hunt", name := "trapThief", desc := "()V" } : Jvm.MethodName)) ∈ lw_good := tg_4 233 rfl rfl
theorem g_955 : (Jvm.Cond.instanceMethod ({ cls := "BronzeKing$Hunt", name := "trapThief", desc := "()V" } : Jvm.MethodName)) ∈ lw_good := tg_4 235 rfl rfl
theorem g_956 : (Jvm.Cond.code ({ cls := "BronzeKing$Hunt", name := "trapThief", desc := "()V" } : Jvm.MethodName) prog_3_method_3_code (3 : Nat) (Option.none : Option Jvm.ClassFile.FieldType)) ∈ lw_good := tg_4 236 rfl rfl
theorem g_957 : (Jvm.Cond.methodLink "BronzeKing$Hunt" (43 : Nat) ({ cls := "BronzeKing$PlaceSet", name := "take", desc := "(LBronzeKing$PlaceSet;)V" } : Jvm.MethodName)) ∈ lw_good := tg_4 237 rfl rfl
theorem g_958 : (Jvm.Cond.instanceMethod ({ cls := "BronzeKing$PlaceSet", name := "take", desc := "(LBronzeKing$PlaceSet;)V" } : Jvm.MethodName)) ∈ lw_good := tg_4 238 rfl rfl
theorem g_959 : (Jvm.Cond.selects "BronzeKing$PlaceSet" ({ cls := "BronzeKing$PlaceSet", name := "take", desc := "(LBronzeKing$PlaceSet;)V" } : Jvm.MethodName) ({ cls := "BronzeKing$PlaceSet", name := "take", desc := "(LBronzeKing$PlaceSet;)V" } : Jvm.MethodName)) ∈ lw_good := tg_4 239 rfl rfl
theorem g_960 : (Jvm.Cond.code ({ cls := "BronzeKing$PlaceSet", name := "take", desc := "(LBronzeKing$PlaceSet;)V" } : Jvm.MethodName) prog_6_method_3_code (2 : Nat) (Option.none : Option Jvm.ClassFile.FieldType)) ∈ lw_good := tg_5 0 rfl rfl
theorem g_961 : (Jvm.Cond.methodLink "BronzeKing$Hunt" (53 : Nat) ({ cls := "BronzeKing$PlaceSet", name := "turnWithin", desc := "(LBronzeKing$PlaceSet;)V" } : Jvm.MethodName)) ∈ lw_good := tg_5 1 rfl rfl
theorem g_962 : (Jvm.Cond.instanceMethod ({ cls := "BronzeKing$PlaceSet", name := "turnWithin", desc := "(LBronzeKing$PlaceSet;)V" } : Jvm.MethodName)) ∈ lw_good := tg_5 2 rfl rfl
theorem g_963 : (Jvm.Cond.selects "BronzeKing$PlaceSet" ({ cls := "BronzeKing$PlaceSet", name := "turnWithin", desc := "(LBronzeKing$PlaceSet;)V" } : Jvm.MethodName) ({ cls := "BronzeKing$PlaceSet", name := "turnWithin", desc := "(LBronzeKing$PlaceSet;)V" } : Jvm.MethodName)) ∈ lw_good := tg_5 3 rfl rfl
theorem g_964 : (Jvm.Cond.code ({ cls := "BronzeKing$PlaceSet", name := "turnWithin", desc := "(LBronzeKing$PlaceSet;)V" } : Jvm.MethodName) prog_6_method_9_code (2 : Nat) (Option.none : Option Jvm.ClassFile.FieldType)) ∈ lw_good := tg_5 4 rfl rfl
theorem g_965 : (Jvm.Cond.constantLong "BronzeKing$PlaceSet" (18 : Nat) (-1 : Int64)) ∈ lw_good := tg_5 5 rfl rfl
theorem g_966 : (Jvm.Cond.methodLink "BronzeKing$Hunt" (56 : Nat) ({ cls := "BronzeKing$PlaceSet", name := "grow", desc := "()V" } : Jvm.MethodName)) ∈ lw_good := tg_5 6 rfl rfl
theorem g_967 : (Jvm.Cond.instanceMethod ({ cls := "BronzeKing$PlaceSet", name := "grow", desc := "()V" } : Jvm.MethodName)) ∈ lw_good := tg_5 7 rfl rfl
theorem g_968 : (Jvm.Cond.selects "BronzeKing$PlaceSet" ({ cls := "BronzeKing$PlaceSet", name := "grow", desc := "()V" } : Jvm.MethodName) ({ cls := "BronzeKing$PlaceSet", name := "grow", desc := "()V" } : Jvm.MethodName)) ∈ lw_good := tg_5 8 rfl rfl
theorem g_969 : (Jvm.Cond.code ({ cls := "BronzeKing$PlaceSet", name := "grow", desc := "()V" } : Jvm.MethodName) prog_6_method_10_code (5 : Nat) (Option.none : Option Jvm.ClassFile.FieldType)) ∈ lw_good := tg_5 9 rfl rfl
theorem g_970 : (Jvm.Cond.methodLink "BronzeKing$PlaceSet" (20 : Nat) ({ cls := "BronzeKing$PlaceSet", name := "besideInRows", desc := "(J)J" } : Jvm.MethodName)) ∈ lw_good := tg_5 10 rfl rfl
theorem g_971 : (Jvm.Cond.static ({ cls := "BronzeKing$PlaceSet", name := "besideInRows", desc := "(J)J" } : Jvm.MethodName)) ∈ lw_good := tg_5 11 rfl rfl
theorem g_972 : (Jvm.Cond.code ({ cls := "BronzeKing$PlaceSet", name := "besideInRows", desc := "(J)J" } : Jvm.MethodName) prog_6_method_11_code (2 : Nat) (Option.some Jvm.ClassFile.FieldType.long)) ∈ lw_good := tg_5 12 rfl rfl
theorem g_973 : (Jvm.Cond.constantLong "BronzeKing$PlaceSet" (28 : Nat) (-140771856484353 : Int64)) ∈ lw_good := tg_5 13 rfl rfl
theorem g_974 : (Jvm.Cond.constantLong "BronzeKing$PlaceSet" (30 : Nat) (-68736258050 : Int64)) ∈ lw_good := tg_5 14 rfl rfl
theorem g_975 : (Jvm.Cond.constantLong "BronzeKing$PlaceSet" (24 : Nat) (281474976710655 : Int64)) ∈ lw_good := tg_5 15 rfl rfl
theorem g_976 : (Jvm.Cond.constantLong "BronzeKing$PlaceSet" (26 : Nat) (4095 : Int64)) ∈ lw_good := tg_5 16 rfl rfl
theorem g_977 : (Jvm.Cond.methodLink "BronzeKing$Hunt" (39 : Nat) ({ cls := "BronzeKing$Hunt", name := "moveKing", desc := "()Z" } : Jvm.MethodName)) ∈ lw_good := tg_5 17 rfl rfl
theorem g_979 : (Jvm.Cond.instanceMethod ({ cls := "BronzeKing$Hunt", name := "moveKing", desc := "()Z" } : Jvm.MethodName)) ∈ lw_good := tg_5 19 rfl rfl
theorem g_980 : (Jvm.Cond.code ({ cls := "BronzeKing$Hunt", name := "moveKing", desc := "()Z" } : Jvm.MethodName) prog_3_method_4_code (6 : Nat) (Option.some Jvm.ClassFile.FieldType.boolean)) ∈ lw_good := tg_5 20 rfl rfl
theorem g_981 : (Jvm.Cond.methodLink "BronzeKing$Hunt" (59 : Nat) ({ cls := "BronzeKing$Town", name := "isOpen", desc := "(I)Z" } : Jvm.MethodName)) ∈ lw_good := tg_5 21 rfl rfl
theorem g_982 : (Jvm.Cond.methodLink "BronzeKing$Hunt" (62 : Nat) ({ cls := "BronzeKing$PlaceSet", name := "size", desc := "()I" } : Jvm.MethodName)) ∈ lw_good := tg_5 22 rfl rfl
theorem g_983 : (Jvm.Cond.instanceMethod ({ cls := "BronzeKing$PlaceSet", name := "size", desc := "()I" } : Jvm.MethodName)) ∈ lw_good := tg_5 23 rfl rfl
theorem g_984 : (Jvm.Cond.selects "BronzeKing$PlaceSet" ({ cls := "BronzeKing$PlaceSet", name := "size", desc := "()I" } : Jvm.MethodName) ({ cls := "BronzeKing$PlaceSet", name := "size", desc := "()I" } : Jvm.MethodName)) ∈ lw_good := tg_5 24 rfl rfl
theorem g_985 : (Jvm.Cond.code ({ cls := "BronzeKing$PlaceSet", name := "size", desc := "()I" } : Jvm.MethodName) prog_6_method_13_code (1 : Nat) (Option.some Jvm.ClassFile.FieldType.int)) ∈ lw_good := tg_5 25 rfl rfl
theorem g_986 : (Jvm.Cond.methodLink "BronzeKing$PlaceSet" (39 : Nat) ({ cls := "java/lang/Long", name := "bitCount", desc := "(J)I" } : Jvm.MethodName)) ∈ lw_good := tg_5 26 rfl rfl
theorem g_987 : (Jvm.Cond.static ({ cls := "java/lang/Long", name := "bitCount", desc := "(J)I" } : Jvm.MethodName)) ∈ lw_good := tg_5 27 rfl rfl
theorem g_988 : (Jvm.Cond.code ({ cls := "java/lang/Long", name := "bitCount", desc := "(J)I" } : Jvm.MethodName) prog_17_method_50_code (2 : Nat) (Option.some Jvm.ClassFile.FieldType.int)) ∈ lw_good := tg_5 28 rfl rfl
theorem g_989 : (Jvm.Cond.constantLong "java/lang/Long" (314 : Nat) (6148914691236517205 : Int64)) ∈ lw_good := tg_5 29 rfl rfl
theorem g_990 : (Jvm.Cond.constantLong "java/lang/Long" (316 : Nat) (3689348814741910323 : Int64)) ∈ lw_good := tg_5 30 rfl rfl
theorem g_991 : (Jvm.Cond.constantLong "java/lang/Long" (318 : Nat) (1085102592571150095 : Int64)) ∈ lw_good := tg_5 31 rfl rfl
theorem g_992 : (Jvm.Cond.methodLink "BronzeKing$Hunt" (66 : Nat) ({ cls := "BronzeKing$PlaceSet", name := "join", desc := "(LBronzeKing$PlaceSet;)V" } : Jvm.MethodName)) ∈ lw_good := tg_5 32 rfl rfl
theorem g_993 : (Jvm.Cond.instanceMethod ({ cls := "BronzeKing$PlaceSet", name := "join", desc := "(LBronzeKing$PlaceSet;)V" } : Jvm.MethodName)) ∈ lw_good := tg_5 33 rfl rfl
theorem g_994 : (Jvm.Cond.selects "BronzeKing$PlaceSet" ({ cls := "BronzeKing$PlaceSet", name := "join", desc := "(LBronzeKing$PlaceSet;)V" } : Jvm.MethodName) ({ cls := "BronzeKing$PlaceSet", name := "join", desc := "(LBronzeKing$PlaceSet;)V" } : Jvm.MethodName)) ∈ lw_good := tg_5 34 rfl rfl
theorem g_995 : (Jvm.Cond.code ({ cls := "BronzeKing$PlaceSet", name := "join", desc := "(LBronzeKing$PlaceSet;)V" } : Jvm.MethodName) prog_6_method_7_code (2 : Nat) (Option.none : Option Jvm.ClassFile.FieldType)) ∈ lw_good := tg_5 35 rfl rfl
theorem g_996 : (Jvm.Cond.methodLinkNest "BronzeKing$Hunt" (69 : Nat) ({ cls := "BronzeKing", name := "beside", desc := "(II)I" } : Jvm.MethodName) "BronzeKing") ∈ tables_1 := tm_5 (List.mem_of_getElem? (i := 36) rfl)
theorem g_997 : (Jvm.Cond.methodLink "BronzeKingLaw" (96 : Nat) ({ cls := "BronzeKing", name := "lovers", desc := "(II)I" } : Jvm.MethodName)) ∈ lw_good := tg_5 37 rfl rfl
theorem g_998 : (Jvm.Cond.instanceMethod ({ cls := "BronzeKing", name := "lovers", desc := "(II)I" } : Jvm.MethodName)) ∈ lw_good := tg_5 38 rfl rfl
theorem g_999 : (Jvm.Cond.selects "BronzeKing" ({ cls := "BronzeKing", name := "lovers", desc := "(II)I" } : Jvm.MethodName) ({ cls := "BronzeKing", name := "lovers", desc := "(II)I" } : Jvm.MethodName)) ∈ lw_good := tg_5 39 rfl rfl
theorem g_1000 : (Jvm.Cond.code ({ cls := "BronzeKing", name := "lovers", desc := "(II)I" } : Jvm.MethodName) prog_1_method_21_code (5 : Nat) (Option.some Jvm.ClassFile.FieldType.int)) ∈ lw_good := tg_5 40 rfl rfl
theorem g_1001 : (Jvm.Cond.methodLink "BronzeKing" (246 : Nat) ({ cls := "BronzeKing$Survey", name := "forgetLovers", desc := "()V" } : Jvm.MethodName)) ∈ lw_good := tg_5 41 rfl rfl
theorem g_1002 : (Jvm.Cond.instanceMethod ({ cls := "BronzeKing$Survey", name := "forgetLovers", desc := "()V" } : Jvm.MethodName)) ∈ lw_good := tg_5 42 rfl rfl
theorem g_1003 : (Jvm.Cond.selects "BronzeKing$Survey" ({ cls := "BronzeKing$Survey", name := "forgetLovers", desc := "()V" } : Jvm.MethodName) ({ cls := "BronzeKing$Survey", name := "forgetLovers", desc := "()V" } : Jvm.MethodName)) ∈ lw_good := tg_5 43 rfl rfl
theorem g_1004 : (Jvm.Cond.code ({ cls := "BronzeKing$Survey", name := "forgetLovers", desc := "()V" } : Jvm.MethodName) prog_8_method_5_code (1 : Nat) (Option.none : Option Jvm.ClassFile.FieldType)) ∈ lw_good := tg_5 44 rfl rfl
theorem g_1005 : (Jvm.Cond.methodLink "BronzeKing" (252 : Nat) ({ cls := "BronzeKing$Survey", name := "addLover", desc := "(I)V" } : Jvm.MethodName)) ∈ lw_good := tg_5 45 rfl rfl
theorem g_1006 : (Jvm.Cond.instanceMethod ({ cls := "BronzeKing$Survey", name := "addLover", desc := "(I)V" } : Jvm.MethodName)) ∈ lw_good := tg_5 46 rfl rfl
theorem g_1007 : (Jvm.Cond.selects "BronzeKing$Survey" ({ cls := "BronzeKing$Survey", name := "addLover", desc := "(I)V" } : Jvm.MethodName) ({ cls := "BronzeKing$Survey", name := "addLover", desc := "(I)V" } : Jvm.MethodName)) ∈ lw_good := tg_5 47 rfl rfl
theorem g_1008 : (Jvm.Cond.code ({ cls := "BronzeKing$Survey", name := "addLover", desc := "(I)V" } : Jvm.MethodName) prog_8_method_6_code (3 : Nat) (Option.none : Option Jvm.ClassFile.FieldType)) ∈ lw_good := tg_5 48 rfl rfl
theorem g_1009 : (Jvm.Cond.methodLink "BronzeKing$Survey" (88 : Nat) ({ cls := "java/lang/Math", name := "max", desc := "(II)I" } : Jvm.MethodName)) ∈ lw_good := tg_5 49 rfl rfl
theorem g_1010 : (Jvm.Cond.methodLink "BronzeKing" (255 : Nat) ({ cls := "BronzeKing$Survey", name := "meetingPlace", desc := "()I" } : Jvm.MethodName)) ∈ lw_good := tg_5 50 rfl rfl
theorem g_1011 : (Jvm.Cond.instanceMethod ({ cls := "BronzeKing$Survey", name := "meetingPlace", desc := "()I" } : Jvm.MethodName)) ∈ lw_good := tg_5 51 rfl rfl
theorem g_1012 : (Jvm.Cond.selects "BronzeKing$Survey" ({ cls := "BronzeKing$Survey", name := "meetingPlace", desc := "()I" } : Jvm.MethodName) ({ cls := "BronzeKing$Survey", name := "meetingPlace", desc := "()I" } : Jvm.MethodName)) ∈ lw_good := tg_5 52 rfl rfl
theorem g_1013 : (Jvm.Cond.code ({ cls := "BronzeKing$Survey", name := "meetingPlace", desc := "()I" } : Jvm.MethodName) prog_8_method_7_code (6 : Nat) (Option.some Jvm.ClassFile.FieldType.int)) ∈ lw_good := tg_5 53 rfl rfl
theorem g_1014 : (Jvm.Cond.methodLink "BronzeKingLaw" (100 : Nat) ({ cls := "BronzeKing", name := "benches", desc := "(II)I" } : Jvm.MethodName)) ∈ lw_good := tg_5 54 rfl rfl
theorem g_1015 : (Jvm.Cond.instanceMethod ({ cls := "BronzeKing", name := "benches", desc := "(II)I" } : Jvm.MethodName)) ∈ lw_good := tg_5 55 rfl rfl
theorem g_1016 : (Jvm.Cond.selects "BronzeKing" ({ cls := "BronzeKing", name := "benches", desc := "(II)I" } : Jvm.MethodName) ({ cls := "BronzeKing", name := "benches", desc := "(II)I" } : Jvm.MethodName)) ∈ lw_good := tg_5 56 rfl rfl
theorem g_1017 : (Jvm.Cond.code ({ cls := "BronzeKing", name := "benches", desc := "(II)I" } : Jvm.MethodName) prog_1_method_22_code (3 : Nat) (Option.some Jvm.ClassFile.FieldType.int)) ∈ lw_good := tg_5 57 rfl rfl
theorem g_1018 : (Jvm.Cond.methodLink "BronzeKing" (261 : Nat) ({ cls := "BronzeKing$Survey", name := "lookAround", desc := "([I)V" } : Jvm.MethodName)) ∈ lw_good := tg_5 58 rfl rfl
theorem g_1019 : (Jvm.Cond.instanceMethod ({ cls := "BronzeKing$Survey", name := "lookAround", desc := "([I)V" } : Jvm.MethodName)) ∈ lw_good := tg_5 59 rfl rfl
theorem g_1020 : (Jvm.Cond.selects "BronzeKing$Survey" ({ cls := "BronzeKing$Survey", name := "lookAround", desc := "([I)V" } : Jvm.MethodName) ({ cls := "BronzeKing$Survey", name := "lookAround", desc := "([I)V" } : Jvm.MethodName)) ∈ lw_good := tg_5 60 rfl rfl
theorem g_1021 : (Jvm.Cond.code ({ cls := "BronzeKing$Survey", name := "lookAround", desc := "([I)V" } : Jvm.MethodName) prog_8_method_8_code (4 : Nat) (Option.none : Option Jvm.ClassFile.FieldType)) ∈ lw_good := tg_5 61 rfl rfl
theorem g_1022 : (Jvm.Cond.methodLink "BronzeKing$Survey" (93 : Nat) ({ cls := "BronzeKing$PlaceSet", name := "clear", desc := "()V" } : Jvm.MethodName)) ∈ lw_good := tg_5 62 rfl rfl
theorem g_1023 : (Jvm.Cond.methodLink "BronzeKing$Survey" (96 : Nat) ({ cls := "BronzeKing$PlaceSet", name := "add", desc := "(I)V" } : Jvm.MethodName)) ∈ lw_good := tg_5 63 rfl rfl
theorem g_1024 : (Jvm.Cond.methodLink "BronzeKing$Survey" (103 : Nat) ({ cls := "BronzeKing$PlaceSet", name := "meet", desc := "(LBronzeKing$PlaceSet;)V" } : Jvm.MethodName)) ∈ lw_good := tg_5 64 rfl rfl
theorem g_1025 : (Jvm.Cond.instanceMethod ({ cls := "BronzeKing$PlaceSet", name := "meet", desc := "(LBronzeKing$PlaceSet;)V" } : Jvm.MethodName)) ∈ lw_good := tg_5 65 rfl rfl
theorem g_1026 : (Jvm.Cond.selects "BronzeKing$PlaceSet" ({ cls := "BronzeKing$PlaceSet", name := "meet", desc := "(LBronzeKing$PlaceSet;)V" } : Jvm.MethodName) ({ cls := "BronzeKing$PlaceSet", name := "meet", desc := "(LBronzeKing$PlaceSet;)V" } : Jvm.MethodName)) ∈ lw_good := tg_5 66 rfl rfl
theorem g_1027 : (Jvm.Cond.code ({ cls := "BronzeKing$PlaceSet", name := "meet", desc := "(LBronzeKing$PlaceSet;)V" } : Jvm.MethodName) prog_6_method_8_code (2 : Nat) (Option.none : Option Jvm.ClassFile.FieldType)) ∈ lw_good := tg_5 67 rfl rfl
theorem g_1028 : (Jvm.Cond.methodLink "BronzeKing$Survey" (107 : Nat) ({ cls := "BronzeKing$PlaceSet", name := "grow", desc := "()V" } : Jvm.MethodName)) ∈ lw_good := tg_5 68 rfl rfl
theorem g_1029 : (Jvm.Cond.methodLink "BronzeKing" (265 : Nat) ({ cls := "BronzeKing$Survey", name := "setOneBench", desc := "()V" } : Jvm.MethodName)) ∈ lw_good := tg_5 69 rfl rfl
theorem g_1030 : (Jvm.Cond.instanceMethod ({ cls := "BronzeKing$Survey", name := "setOneBench", desc := "()V" } : Jvm.MethodName)) ∈ lw_good := tg_5 70 rfl rfl
theorem g_1031 : (Jvm.Cond.selects "BronzeKing$Survey" ({ cls := "BronzeKing$Survey", name := "setOneBench", desc := "()V" } : Jvm.MethodName) ({ cls := "BronzeKing$Survey", name := "setOneBench", desc := "()V" } : Jvm.MethodName)) ∈ lw_good := tg_5 71 rfl rfl
theorem g_1032 : (Jvm.Cond.code ({ cls := "BronzeKing$Survey", name := "setOneBench", desc := "()V" } : Jvm.MethodName) prog_8_method_9_code (2 : Nat) (Option.none : Option Jvm.ClassFile.FieldType)) ∈ lw_good := tg_5 72 rfl rfl
theorem g_1033 : (Jvm.Cond.methodLink "BronzeKing$Survey" (110 : Nat) ({ cls := "BronzeKing$Town", name := "isOpen", desc := "(I)Z" } : Jvm.MethodName)) ∈ lw_good := tg_5 73 rfl rfl
theorem g_1034 : (Jvm.Cond.methodLink "BronzeKing$Survey" (114 : Nat) ({ cls := "BronzeKing$PlaceSet", name := "size", desc := "()I" } : Jvm.MethodName)) ∈ lw_good := tg_5 74 rfl rfl
theorem g_1035 : (Jvm.Cond.methodLink "BronzeKing" (268 : Nat) ({ cls := "BronzeKing$Survey", name := "setTwoBenches", desc := "()V" } : Jvm.MethodName)) ∈ lw_good := tg_5 75 rfl rfl
theorem g_1036 : (Jvm.Cond.instanceMethod ({ cls := "BronzeKing$Survey", name := "setTwoBenches", desc := "()V" } : Jvm.MethodName)) ∈ lw_good := tg_5 76 rfl rfl
theorem g_1037 : (Jvm.Cond.selects "BronzeKing$Survey" ({ cls := "BronzeKing$Survey", name := "setTwoBenches", desc := "()V" } : Jvm.MethodName) ({ cls := "BronzeKing$Survey", name := "setTwoBenches", desc := "()V" } : Jvm.MethodName)) ∈ lw_good := tg_5 77 rfl rfl
theorem g_1038 : (Jvm.Cond.code ({ cls := "BronzeKing$Survey", name := "setTwoBenches", desc := "()V" } : Jvm.MethodName) prog_8_method_10_code (3 : Nat) (Option.none : Option Jvm.ClassFile.FieldType)) ∈ lw_good := tg_5 78 rfl rfl
theorem g_1039 : (Jvm.Cond.methodLink "BronzeKing$Survey" (118 : Nat) ({ cls := "BronzeKing$PlaceSet", name := "sizeWith", desc := "(LBronzeKing$PlaceSet;)I" } : Jvm.MethodName)) ∈ lw_good := tg_5 79 rfl rfl
theorem g_1040 : (Jvm.Cond.instanceMethod ({ cls := "BronzeKing$PlaceSet", name := "sizeWith", desc := "(LBronzeKing$PlaceSet;)I" } : Jvm.MethodName)) ∈ lw_good := tg_5 80 rfl rfl
theorem g_1041 : (Jvm.Cond.selects "BronzeKing$PlaceSet" ({ cls := "BronzeKing$PlaceSet", name := "sizeWith", desc := "(LBronzeKing$PlaceSet;)I" } : Jvm.MethodName) ({ cls := "BronzeKing$PlaceSet", name := "sizeWith", desc := "(LBronzeKing$PlaceSet;)I" } : Jvm.MethodName)) ∈ lw_good := tg_5 81 rfl rfl
theorem g_1042 : (Jvm.Cond.code ({ cls := "BronzeKing$PlaceSet", name := "sizeWith", desc := "(LBronzeKing$PlaceSet;)I" } : Jvm.MethodName) prog_6_method_14_code (2 : Nat) (Option.some Jvm.ClassFile.FieldType.int)) ∈ lw_good := tg_5 82 rfl rfl
theorem g_1043 : (Jvm.Cond.methodLink "BronzeKingLaw" (104 : Nat) ({ cls := "BronzeKing", name := "pigeons", desc := "(I)I" } : Jvm.MethodName)) ∈ lw_good := tg_5 83 rfl rfl
theorem g_1044 : (Jvm.Cond.instanceMethod ({ cls := "BronzeKing", name := "pigeons", desc := "(I)I" } : Jvm.MethodName)) ∈ lw_good := tg_5 84 rfl rfl
theorem g_1045 : (Jvm.Cond.selects "BronzeKing" ({ cls := "BronzeKing", name := "pigeons", desc := "(I)I" } : Jvm.MethodName) ({ cls := "BronzeKing", name := "pigeons", desc := "(I)I" } : Jvm.MethodName)) ∈ lw_good := tg_5 85 rfl rfl
theorem g_1046 : (Jvm.Cond.code ({ cls := "BronzeKing", name := "pigeons", desc := "(I)I" } : Jvm.MethodName) prog_1_method_23_code (8 : Nat) (Option.some Jvm.ClassFile.FieldType.int)) ∈ lw_good := tg_5 86 rfl rfl
theorem g_1047 : (Jvm.Cond.methodLink "BronzeKing" (280 : Nat) ({ cls := "java/lang/Math", name := "abs", desc := "(I)I" } : Jvm.MethodName)) ∈ lw_good := tg_5 87 rfl rfl
theorem g_1048 : (Jvm.Cond.static ({ cls := "java/lang/Math", name := "abs", desc := "(I)I" } : Jvm.MethodName)) ∈ lw_good := tg_5 88 rfl rfl
theorem g_1049 : (Jvm.Cond.code ({ cls := "java/lang/Math", name := "abs", desc := "(I)I" } : Jvm.MethodName) prog_18_method_59_code (1 : Nat) (Option.some Jvm.ClassFile.FieldType.int)) ∈ lw_good := tg_5 89 rfl rfl
theorem g_1050 : (Jvm.Cond.methodLink "BronzeKingLaw" (108 : Nat) ({ cls := "BronzeKing", name := "streets", desc := "(I)I" } : Jvm.MethodName)) ∈ lw_good := tg_5 90 rfl rfl
theorem g_1051 : (Jvm.Cond.instanceMethod ({ cls := "BronzeKing", name := "streets", desc := "(I)I" } : Jvm.MethodName)) ∈ lw_good := tg_5 91 rfl rfl
theorem g_1052 : (Jvm.Cond.selects "BronzeKing" ({ cls := "BronzeKing", name := "streets", desc := "(I)I" } : Jvm.MethodName) ({ cls := "BronzeKing", name := "streets", desc := "(I)I" } : Jvm.MethodName)) ∈ lw_good := tg_5 92 rfl rfl
theorem g_1053 : (Jvm.Cond.code ({ cls := "BronzeKing", name := "streets", desc := "(I)I" } : Jvm.MethodName) prog_1_method_24_code (2 : Nat) (Option.some Jvm.ClassFile.FieldType.int)) ∈ lw_good := tg_5 93 rfl rfl
theorem g_1054 : (Jvm.Cond.methodLink "BronzeKing" (283 : Nat) ({ cls := "BronzeKing$Survey", name := "islands", desc := "()I" } : Jvm.MethodName)) ∈ lw_good := tg_5 94 rfl rfl
theorem g_1055 : (Jvm.Cond.instanceMethod ({ cls := "BronzeKing$Survey", name := "islands", desc := "()I" } : Jvm.MethodName)) ∈ lw_good := tg_5 95 rfl rfl
theorem g_1056 : (Jvm.Cond.selects "BronzeKing$Survey" ({ cls := "BronzeKing$Survey", name := "islands", desc := "()I" } : Jvm.MethodName) ({ cls := "BronzeKing$Survey", name := "islands", desc := "()I" } : Jvm.MethodName)) ∈ lw_good := tg_5 96 rfl rfl
theorem g_1057 : (Jvm.Cond.code ({ cls := "BronzeKing$Survey", name := "islands", desc := "()I" } : Jvm.MethodName) prog_8_method_11_code (3 : Nat) (Option.some Jvm.ClassFile.FieldType.int)) ∈ lw_good := tg_5 97 rfl rfl
theorem g_1058 : (Jvm.Cond.methodLink "BronzeKing$Survey" (122 : Nat) ({ cls := "BronzeKing$PlaceSet", name := "take", desc := "(LBronzeKing$PlaceSet;)V" } : Jvm.MethodName)) ∈ lw_good := tg_5 98 rfl rfl
theorem g_1059 : (Jvm.Cond.methodLink "BronzeKing$Survey" (125 : Nat) ({ cls := "BronzeKing$PlaceSet", name := "has", desc := "(I)Z" } : Jvm.MethodName)) ∈ lw_good := tg_5 99 rfl rfl
theorem g_1060 : (Jvm.Cond.methodLink "BronzeKing$Survey" (128 : Nat) ({ cls := "BronzeKing$PlaceSet", name := "flood", desc := "(LBronzeKing$PlaceSet;)V" } : Jvm.MethodName)) ∈ lw_good := tg_5 100 rfl rfl
theorem g_1061 : (Jvm.Cond.instanceMethod ({ cls := "BronzeKing$PlaceSet", name := "flood", desc := "(LBronzeKing$PlaceSet;)V" } : Jvm.MethodName)) ∈ lw_good := tg_5 101 rfl rfl
theorem g_1062 : (Jvm.Cond.selects "BronzeKing$PlaceSet" ({ cls := "BronzeKing$PlaceSet", name := "flood", desc := "(LBronzeKing$PlaceSet;)V" } : Jvm.MethodName) ({ cls := "BronzeKing$PlaceSet", name := "flood", desc := "(LBronzeKing$PlaceSet;)V" } : Jvm.MethodName)) ∈ lw_good := tg_5 102 rfl rfl
theorem g_1063 : (Jvm.Cond.code ({ cls := "BronzeKing$PlaceSet", name := "flood", desc := "(LBronzeKing$PlaceSet;)V" } : Jvm.MethodName) prog_6_method_12_code (8 : Nat) (Option.none : Option Jvm.ClassFile.FieldType)) ∈ lw_good := tg_5 103 rfl rfl
theorem g_1064 : (Jvm.Cond.methodLink "BronzeKing$PlaceSet" (32 : Nat) ({ cls := "BronzeKing$PlaceSet", name := "grow", desc := "()V" } : Jvm.MethodName)) ∈ lw_good := tg_5 104 rfl rfl
theorem g_1065 : (Jvm.Cond.methodLink "BronzeKing$PlaceSet" (35 : Nat) ({ cls := "BronzeKing$PlaceSet", name := "meet", desc := "(LBronzeKing$PlaceSet;)V" } : Jvm.MethodName)) ∈ lw_good := tg_5 105 rfl rfl
theorem g_1066 : (Jvm.Cond.methodLink "BronzeKing$Survey" (131 : Nat) ({ cls := "BronzeKing$PlaceSet", name := "turnWithin", desc := "(LBronzeKing$PlaceSet;)V" } : Jvm.MethodName)) ∈ lw_good := tg_5 106 rfl rfl
theorem g_1067 : (Jvm.Cond.methodLink "BronzeKing" (286 : Nat) ({ cls := "BronzeKing$Survey", name := "deadEnds", desc := "()I" } : Jvm.MethodName)) ∈ lw_good := tg_5 107 rfl rfl
theorem g_1068 : (Jvm.Cond.instanceMethod ({ cls := "BronzeKing$Survey", name := "deadEnds", desc := "()I" } : Jvm.MethodName)) ∈ lw_good := tg_5 108 rfl rfl
theorem g_1069 : (Jvm.Cond.selects "BronzeKing$Survey" ({ cls := "BronzeKing$Survey", name := "deadEnds", desc := "()I" } : Jvm.MethodName) ({ cls := "BronzeKing$Survey", name := "deadEnds", desc := "()I" } : Jvm.MethodName)) ∈ lw_good := tg_5 109 rfl rfl
theorem g_1070 : (Jvm.Cond.code ({ cls := "BronzeKing$Survey", name := "deadEnds", desc := "()I" } : Jvm.MethodName) prog_8_method_12_code (1 : Nat) (Option.some Jvm.ClassFile.FieldType.int)) ∈ lw_good := tg_5 110 rfl rfl
theorem g_1071 : (Jvm.Cond.methodLink "BronzeKing$Survey" (134 : Nat) ({ cls := "BronzeKing$Survey", name := "openPlacesWith", desc := "(I)I" } : Jvm.MethodName)) ∈ lw_good := tg_5 111 rfl rfl
theorem g_1073 : (Jvm.Cond.instanceMethod ({ cls := "BronzeKing$Survey", name := "openPlacesWith", desc := "(I)I" } : Jvm.MethodName)) ∈ lw_good := tg_5 113 rfl rfl
theorem g_1074 : (Jvm.Cond.code ({ cls := "BronzeKing$Survey", name := "openPlacesWith", desc := "(I)I" } : Jvm.MethodName) prog_8_method_15_code (4 : Nat) (Option.some Jvm.ClassFile.FieldType.int)) ∈ lw_good := tg_5 114 rfl rfl
theorem g_1075 : (Jvm.Cond.methodLink "BronzeKing$Survey" (140 : Nat) ({ cls := "BronzeKing$Town", name := "openBeside", desc := "(I)I" } : Jvm.MethodName)) ∈ lw_good := tg_5 115 rfl rfl
theorem g_1076 : (Jvm.Cond.methodLink "BronzeKing" (289 : Nat) ({ cls := "BronzeKing$Survey", name := "rings", desc := "()I" } : Jvm.MethodName)) ∈ lw_good := tg_5 116 rfl rfl
theorem g_1077 : (Jvm.Cond.instanceMethod ({ cls := "BronzeKing$Survey", name := "rings", desc := "()I" } : Jvm.MethodName)) ∈ lw_good := tg_5 117 rfl rfl
theorem g_1078 : (Jvm.Cond.selects "BronzeKing$Survey" ({ cls := "BronzeKing$Survey", name := "rings", desc := "()I" } : Jvm.MethodName) ({ cls := "BronzeKing$Survey", name := "rings", desc := "()I" } : Jvm.MethodName)) ∈ lw_good := tg_5 118 rfl rfl
theorem g_1079 : (Jvm.Cond.code ({ cls := "BronzeKing$Survey", name := "rings", desc := "()I" } : Jvm.MethodName) prog_8_method_14_code (2 : Nat) (Option.some Jvm.ClassFile.FieldType.int)) ∈ lw_good := tg_5 119 rfl rfl
theorem g_1080 : (Jvm.Cond.methodLink "BronzeKing$Survey" (137 : Nat) ({ cls := "BronzeKing$Survey", name := "islands", desc := "()I" } : Jvm.MethodName)) ∈ lw_good := tg_5 120 rfl rfl
theorem g_1081 : (Jvm.Cond.methodLink "BronzeKing" (292 : Nat) ({ cls := "BronzeKing$Survey", name := "crossings", desc := "()I" } : Jvm.MethodName)) ∈ lw_good := tg_5 121 rfl rfl
theorem g_1082 : (Jvm.Cond.instanceMethod ({ cls := "BronzeKing$Survey", name := "crossings", desc := "()I" } : Jvm.MethodName)) ∈ lw_good := tg_5 122 rfl rfl
theorem g_1083 : (Jvm.Cond.selects "BronzeKing$Survey" ({ cls := "BronzeKing$Survey", name := "crossings", desc := "()I" } : Jvm.MethodName) ({ cls := "BronzeKing$Survey", name := "crossings", desc := "()I" } : Jvm.MethodName)) ∈ lw_good := tg_5 123 rfl rfl
theorem g_1084 : (Jvm.Cond.code ({ cls := "BronzeKing$Survey", name := "crossings", desc := "()I" } : Jvm.MethodName) prog_8_method_13_code (1 : Nat) (Option.some Jvm.ClassFile.FieldType.int)) ∈ lw_good := tg_5 124 rfl rfl
theorem g_1085 : (Jvm.Cond.methodLink "BronzeKing" (299 : Nat) ({ cls := "BronzeKing$PlaceSet", name := "size", desc := "()I" } : Jvm.MethodName)) ∈ lw_good := tg_5 125 rfl rfl
theorem g_1086 : (Jvm.Cond.methodLink "BronzeKing" (303 : Nat) ({ cls := "BronzeKing$Survey", name := "findCuts", desc := "()V" } : Jvm.MethodName)) ∈ lw_good := tg_5 126 rfl rfl
theorem g_1087 : (Jvm.Cond.instanceMethod ({ cls := "BronzeKing$Survey", name := "findCuts", desc := "()V" } : Jvm.MethodName)) ∈ lw_good := tg_5 127 rfl rfl
theorem g_1088 : (Jvm.Cond.selects "BronzeKing$Survey" ({ cls := "BronzeKing$Survey", name := "findCuts", desc := "()V" } : Jvm.MethodName) ({ cls := "BronzeKing$Survey", name := "findCuts", desc := "()V" } : Jvm.MethodName)) ∈ lw_good := tg_5 128 rfl rfl
theorem g_1089 : (Jvm.Cond.code ({ cls := "BronzeKing$Survey", name := "findCuts", desc := "()V" } : Jvm.MethodName) prog_8_method_16_code (4 : Nat) (Option.none : Option Jvm.ClassFile.FieldType)) ∈ lw_good := tg_5 129 rfl rfl
theorem g_1090 : (Jvm.Cond.methodLink "BronzeKing$Survey" (143 : Nat) ({ cls := "BronzeKing$Survey", name := "comeToWithout", desc := "(I)I" } : Jvm.MethodName)) ∈ lw_good := tg_5 130 rfl rfl
theorem g_1092 : (Jvm.Cond.instanceMethod ({ cls := "BronzeKing$Survey", name := "comeToWithout", desc := "(I)I" } : Jvm.MethodName)) ∈ lw_good := tg_5 132 rfl rfl
theorem g_1093 : (Jvm.Cond.code ({ cls := "BronzeKing$Survey", name := "comeToWithout", desc := "(I)I" } : Jvm.MethodName) prog_8_method_17_code (2 : Nat) (Option.some Jvm.ClassFile.FieldType.int)) ∈ lw_good := tg_5 133 rfl rfl
theorem g_1094 : (Jvm.Cond.methodLink "BronzeKing$Survey" (149 : Nat) ({ cls := "BronzeKing$PlaceSet", name := "drop", desc := "(I)V" } : Jvm.MethodName)) ∈ lw_good := tg_5 134 rfl rfl
theorem g_1095 : (Jvm.Cond.instanceMethod ({ cls := "BronzeKing$PlaceSet", name := "drop", desc := "(I)V" } : Jvm.MethodName)) ∈ lw_good := tg_5 135 rfl rfl
theorem g_1096 : (Jvm.Cond.selects "BronzeKing$PlaceSet" ({ cls := "BronzeKing$PlaceSet", name := "drop", desc := "(I)V" } : Jvm.MethodName) ({ cls := "BronzeKing$PlaceSet", name := "drop", desc := "(I)V" } : Jvm.MethodName)) ∈ lw_good := tg_5 136 rfl rfl
theorem g_1097 : (Jvm.Cond.code ({ cls := "BronzeKing$PlaceSet", name := "drop", desc := "(I)V" } : Jvm.MethodName) prog_6_method_5_code (2 : Nat) (Option.none : Option Jvm.ClassFile.FieldType)) ∈ lw_good := tg_5 137 rfl rfl
theorem g_1098 : (Jvm.Cond.methodLink "BronzeKingLaw" (112 : Nat) ({ cls := "BronzeKing", name := "seed", desc := "(I)Z" } : Jvm.MethodName)) ∈ lw_good := tg_5 138 rfl rfl
theorem g_1099 : (Jvm.Cond.instanceMethod ({ cls := "BronzeKing", name := "seed", desc := "(I)Z" } : Jvm.MethodName)) ∈ lw_good := tg_5 139 rfl rfl
theorem g_1100 : (Jvm.Cond.selects "BronzeKing" ({ cls := "BronzeKing", name := "seed", desc := "(I)Z" } : Jvm.MethodName) ({ cls := "BronzeKing", name := "seed", desc := "(I)Z" } : Jvm.MethodName)) ∈ lw_good := tg_5 140 rfl rfl
theorem g_1101 : (Jvm.Cond.code ({ cls := "BronzeKing", name := "seed", desc := "(I)Z" } : Jvm.MethodName) prog_1_method_25_code (2 : Nat) (Option.some Jvm.ClassFile.FieldType.boolean)) ∈ lw_good := tg_5 141 rfl rfl
theorem g_1102 : (Jvm.Cond.constant "BronzeKing" (312 : Nat) (65535 : Int32)) ∈ lw_good := tg_5 142 rfl rfl
theorem g_1103 : (Jvm.Cond.methodLink "BronzeKingLaw" (117 : Nat) ({ cls := "BronzeKing", name := "keep", desc := "()I" } : Jvm.MethodName)) ∈ lw_good := tg_5 143 rfl rfl
theorem g_1104 : (Jvm.Cond.instanceMethod ({ cls := "BronzeKing", name := "keep", desc := "()I" } : Jvm.MethodName)) ∈ lw_good := tg_5 144 rfl rfl
theorem g_1105 : (Jvm.Cond.selects "BronzeKing" ({ cls := "BronzeKing", name := "keep", desc := "()I" } : Jvm.MethodName) ({ cls := "BronzeKing", name := "keep", desc := "()I" } : Jvm.MethodName)) ∈ lw_good := tg_5 145 rfl rfl
theorem g_1106 : (Jvm.Cond.code ({ cls := "BronzeKing", name := "keep", desc := "()I" } : Jvm.MethodName) prog_1_method_26_code (1 : Nat) (Option.some Jvm.ClassFile.FieldType.int)) ∈ lw_good := tg_5 146 rfl rfl
theorem g_1107 : (Jvm.Cond.methodLink "BronzeKingLaw" (121 : Nat) ({ cls := "BronzeKing", name := "undo", desc := "()Z" } : Jvm.MethodName)) ∈ lw_good := tg_5 147 rfl rfl
theorem g_1108 : (Jvm.Cond.instanceMethod ({ cls := "BronzeKing", name := "undo", desc := "()Z" } : Jvm.MethodName)) ∈ lw_good := tg_5 148 rfl rfl
theorem g_1109 : (Jvm.Cond.selects "BronzeKing" ({ cls := "BronzeKing", name := "undo", desc := "()Z" } : Jvm.MethodName) ({ cls := "BronzeKing", name := "undo", desc := "()Z" } : Jvm.MethodName)) ∈ lw_good := tg_5 149 rfl rfl
theorem g_1110 : (Jvm.Cond.code ({ cls := "BronzeKing", name := "undo", desc := "()Z" } : Jvm.MethodName) prog_1_method_27_code (1 : Nat) (Option.some Jvm.ClassFile.FieldType.boolean)) ∈ lw_good := tg_5 150 rfl rfl
theorem g_1111 : (Jvm.Cond.methodLink "BronzeKingLaw" (126 : Nat) ({ cls := "BronzeKing", name := "check", desc := "(II)I" } : Jvm.MethodName)) ∈ lw_good := tg_5 151 rfl rfl
theorem g_1112 : (Jvm.Cond.instanceMethod ({ cls := "BronzeKing", name := "check", desc := "(II)I" } : Jvm.MethodName)) ∈ lw_good := tg_5 152 rfl rfl
theorem g_1113 : (Jvm.Cond.selects "BronzeKing" ({ cls := "BronzeKing", name := "check", desc := "(II)I" } : Jvm.MethodName) ({ cls := "BronzeKing", name := "check", desc := "(II)I" } : Jvm.MethodName)) ∈ lw_good := tg_5 153 rfl rfl
theorem g_1114 : (Jvm.Cond.code ({ cls := "BronzeKing", name := "check", desc := "(II)I" } : Jvm.MethodName) prog_1_method_28_code (4 : Nat) (Option.some Jvm.ClassFile.FieldType.int)) ∈ lw_good := tg_5 154 rfl rfl
theorem g_1115 : (Jvm.Cond.methodLink "BronzeKingLaw" (130 : Nat) ({ cls := "BronzeKing", name := "count", desc := "(I)I" } : Jvm.MethodName)) ∈ lw_good := tg_5 155 rfl rfl
theorem g_1116 : (Jvm.Cond.instanceMethod ({ cls := "BronzeKing", name := "count", desc := "(I)I" } : Jvm.MethodName)) ∈ lw_good := tg_5 156 rfl rfl
theorem g_1117 : (Jvm.Cond.selects "BronzeKing" ({ cls := "BronzeKing", name := "count", desc := "(I)I" } : Jvm.MethodName) ({ cls := "BronzeKing", name := "count", desc := "(I)I" } : Jvm.MethodName)) ∈ lw_good := tg_5 157 rfl rfl
theorem g_1118 : (Jvm.Cond.code ({ cls := "BronzeKing", name := "count", desc := "(I)I" } : Jvm.MethodName) prog_1_method_29_code (2 : Nat) (Option.some Jvm.ClassFile.FieldType.int)) ∈ lw_good := tg_5 158 rfl rfl
theorem g_1119 : (Jvm.Cond.methodLink "BronzeKing" (316 : Nat) ({ cls := "BronzeKing$Law", name := "weightOf", desc := "(II)I" } : Jvm.MethodName)) ∈ lw_good := tg_5 159 rfl rfl
theorem g_1120 : (Jvm.Cond.methodLink "BronzeKing" (322 : Nat) ({ cls := "BronzeKing$Course", name := "wearOfAll", desc := "()I" } : Jvm.MethodName)) ∈ lw_good := tg_5 160 rfl rfl
theorem g_1121 : (Jvm.Cond.instanceMethod ({ cls := "BronzeKing$Course", name := "wearOfAll", desc := "()I" } : Jvm.MethodName)) ∈ lw_good := tg_5 161 rfl rfl
theorem g_1122 : (Jvm.Cond.selects "BronzeKing$Course" ({ cls := "BronzeKing$Course", name := "wearOfAll", desc := "()I" } : Jvm.MethodName) ({ cls := "BronzeKing$Course", name := "wearOfAll", desc := "()I" } : Jvm.MethodName)) ∈ lw_good := tg_5 162 rfl rfl
theorem g_1123 : (Jvm.Cond.code ({ cls := "BronzeKing$Course", name := "wearOfAll", desc := "()I" } : Jvm.MethodName) prog_2_method_5_code (3 : Nat) (Option.some Jvm.ClassFile.FieldType.int)) ∈ lw_good := tg_5 163 rfl rfl
theorem g_1124 : (Jvm.Cond.methodLink "BronzeKing" (325 : Nat) ({ cls := "BronzeKing$Law", name := "weightOfAll", desc := "(I)I" } : Jvm.MethodName)) ∈ lw_good := tg_5 164 rfl rfl
theorem g_1125 : (Jvm.Cond.instanceMethod ({ cls := "BronzeKing$Law", name := "weightOfAll", desc := "(I)I" } : Jvm.MethodName)) ∈ lw_good := tg_5 165 rfl rfl
theorem g_1126 : (Jvm.Cond.selects "BronzeKing$Law" ({ cls := "BronzeKing$Law", name := "weightOfAll", desc := "(I)I" } : Jvm.MethodName) ({ cls := "BronzeKing$Law", name := "weightOfAll", desc := "(I)I" } : Jvm.MethodName)) ∈ lw_good := tg_5 166 rfl rfl
theorem g_1127 : (Jvm.Cond.code ({ cls := "BronzeKing$Law", name := "weightOfAll", desc := "(I)I" } : Jvm.MethodName) prog_4_method_4_code (4 : Nat) (Option.some Jvm.ClassFile.FieldType.int)) ∈ lw_good := tg_5 167 rfl rfl
theorem g_1128 : (Jvm.Cond.methodLink "BronzeKing$Law" (57 : Nat) ({ cls := "BronzeKing$Law", name := "weightOf", desc := "(II)I" } : Jvm.MethodName)) ∈ lw_good := tg_5 168 rfl rfl
theorem g_1129 : (Jvm.Cond.classLink "BronzeKingLaw" (10 : Nat) "BronzeKingModel") ∈ lw_good := tg_5 169 rfl rfl
theorem g_1130 : (Jvm.Cond.instantiable "BronzeKingModel" (54 : Nat)) ∈ lw_good := tg_5 170 rfl rfl
theorem g_1131 : (Jvm.Cond.methodLink "BronzeKingLaw" (12 : Nat) ({ cls := "BronzeKingModel", name := "<init>", desc := "()V" } : Jvm.MethodName)) ∈ lw_good := tg_5 171 rfl rfl
theorem g_1132 : (Jvm.Cond.instanceMethod ({ cls := "BronzeKingModel", name := "<init>", desc := "()V" } : Jvm.MethodName)) ∈ lw_good := tg_5 172 rfl rfl
theorem g_1133 : (Jvm.Cond.code ({ cls := "BronzeKingModel", name := "<init>", desc := "()V" } : Jvm.MethodName) prog_14_method_1_code (2 : Nat) (Option.none : Option Jvm.ClassFile.FieldType)) ∈ lw_good := tg_5 173 rfl rfl
theorem g_1134 : (Jvm.Cond.methodLink "BronzeKingModel" (1 : Nat) ({ cls := "java/lang/Object", name := "<init>", desc := "()V" } : Jvm.MethodName)) ∈ lw_good := tg_5 174 rfl rfl
theorem g_1135 : (Jvm.Cond.fieldLink "BronzeKingModel" (7 : Nat) "BronzeKingModel" "now" "[I") ∈ lw_good := tg_5 175 rfl rfl
theorem g_1136 : (Jvm.Cond.fieldLink "BronzeKingModel" (13 : Nat) "BronzeKingModel" "aside" "[I") ∈ lw_good := tg_5 176 rfl rfl
theorem g_1137 : (Jvm.Cond.fieldLink "BronzeKingModel" (16 : Nat) "BronzeKingModel" "kept" "[I") ∈ lw_good := tg_5 177 rfl rfl
theorem g_1138 : (Jvm.Cond.fieldLink "BronzeKingModel" (19 : Nat) "BronzeKingModel" "wallOf" "[I") ∈ lw_good := tg_5 178 rfl rfl
theorem g_1139 : (Jvm.Cond.fieldLink "BronzeKingModel" (22 : Nat) "BronzeKingModel" "doorAt" "[I") ∈ lw_good := tg_5 179 rfl rfl
theorem g_1140 : (Jvm.Cond.fieldLink "BronzeKingModel" (110 : Nat) "BronzeKingModel" "squareNow" "I") ∈ lw_good := tg_5 180 rfl rfl
theorem g_1141 : (Jvm.Cond.fieldLink "BronzeKingModel" (264 : Nat) "BronzeKingModel" "watched" "I") ∈ lw_good := tg_5 181 rfl rfl
theorem g_1142 : (Jvm.Cond.fieldLink "BronzeKingModel" (25 : Nat) "BronzeKingModel" "stepsOf" "[B") ∈ lw_good := tg_5 182 rfl rfl
theorem g_1143 : (Jvm.Cond.fieldLink "BronzeKingModel" (29 : Nat) "BronzeKingModel" "queue" "[I") ∈ lw_good := tg_5 183 rfl rfl
theorem g_1144 : (Jvm.Cond.fieldLink "BronzeKingModel" (118 : Nat) "BronzeKingModel" "areLaid" "Z") ∈ lw_good := tg_5 184 rfl rfl
theorem g_1145 : (Jvm.Cond.fieldLink "BronzeKingModel" (32 : Nat) "BronzeKingModel" "tape" "[B") ∈ lw_good := tg_5 185 rfl rfl
theorem g_1146 : (Jvm.Cond.fieldLink "BronzeKingModel" (137 : Nat) "BronzeKingModel" "taped" "I") ∈ lw_good := tg_5 186 rfl rfl
theorem g_1147 : (Jvm.Cond.fieldLink "BronzeKingModel" (143 : Nat) "BronzeKingModel" "place0" "I") ∈ lw_good := tg_5 187 rfl rfl
theorem g_1148 : (Jvm.Cond.fieldLink "BronzeKingModel" (146 : Nat) "BronzeKingModel" "length0" "I") ∈ lw_good := tg_5 188 rfl rfl
theorem g_1149 : (Jvm.Cond.fieldLink "BronzeKingModel" (153 : Nat) "BronzeKingModel" "fault" "I") ∈ lw_good := tg_5 189 rfl rfl
theorem g_1150 : (Jvm.Cond.fieldLink "BronzeKingModel" (159 : Nat) "BronzeKingModel" "number0" "I") ∈ lw_good := tg_5 190 rfl rfl
theorem g_1151 : (Jvm.Cond.fieldLink "BronzeKingModel" (170 : Nat) "BronzeKingModel" "open" "I") ∈ lw_good := tg_5 191 rfl rfl
theorem g_1152 : (Jvm.Cond.fieldLink "BronzeKingModel" (166 : Nat) "BronzeKingModel" "codeMany" "I") ∈ lw_good := tg_5 192 rfl rfl
theorem g_1153 : (Jvm.Cond.fieldLink "BronzeKingModel" (173 : Nat) "BronzeKingModel" "waiting" "I") ∈ lw_good := tg_5 193 rfl rfl
theorem g_1154 : (Jvm.Cond.fieldLink "BronzeKingModel" (221 : Nat) "BronzeKingModel" "saidMany" "I") ∈ lw_good := tg_5 194 rfl rfl
theorem g_1155 : (Jvm.Cond.fieldLink "BronzeKingModel" (236 : Nat) "BronzeKingModel" "clauses" "I") ∈ lw_good := tg_5 195 rfl rfl
theorem g_1156 : (Jvm.Cond.fieldLink "BronzeKingModel" (35 : Nat) "BronzeKingModel" "said" "[I") ∈ lw_good := tg_5 196 rfl rfl
theorem g_1157 : (Jvm.Cond.fieldLink "BronzeKingModel" (38 : Nat) "BronzeKingModel" "waitsAt" "[I") ∈ lw_good := tg_5 197 rfl rfl
theorem g_1158 : (Jvm.Cond.fieldLink "BronzeKingModel" (41 : Nat) "BronzeKingModel" "saidLetter" "[I") ∈ lw_good := tg_5 198 rfl rfl
theorem g_1159 : (Jvm.Cond.fieldLink "BronzeKingModel" (44 : Nat) "BronzeKingModel" "saidFrom" "[I") ∈ lw_good := tg_5 199 rfl rfl
theorem g_1160 : (Jvm.Cond.fieldLink "BronzeKingModel" (47 : Nat) "BronzeKingModel" "saidHalf" "[I") ∈ lw_good := tg_5 200 rfl rfl
theorem g_1161 : (Jvm.Cond.fieldLink "BronzeKingModel" (50 : Nat) "BronzeKingModel" "saidTo" "[I") ∈ lw_good := tg_5 201 rfl rfl
theorem g_1162 : (Jvm.Cond.fieldLink "BronzeKingModel" (53 : Nat) "BronzeKingModel" "codes" "[I") ∈ lw_good := tg_5 202 rfl rfl
theorem g_1163 : (Jvm.Cond.fieldLink "BronzeKingModel" (56 : Nat) "BronzeKingModel" "clauseOf" "[I") ∈ lw_good := tg_5 203 rfl rfl
theorem g_1164 : (Jvm.Cond.fieldLink "BronzeKingModel" (59 : Nat) "BronzeKingModel" "codeFrom" "[I") ∈ lw_good := tg_5 204 rfl rfl
theorem g_1165 : (Jvm.Cond.fieldLink "BronzeKingModel" (62 : Nat) "BronzeKingModel" "codeHalf" "[I") ∈ lw_good := tg_5 205 rfl rfl
theorem g_1166 : (Jvm.Cond.fieldLink "BronzeKingModel" (65 : Nat) "BronzeKingModel" "codeTo" "[I") ∈ lw_good := tg_5 206 rfl rfl
theorem g_1167 : (Jvm.Cond.fieldLink "BronzeKingModel" (68 : Nat) "BronzeKingModel" "stack" "[I") ∈ lw_good := tg_5 207 rfl rfl
theorem g_1168 : (Jvm.Cond.fieldLink "BronzeKingModel" (71 : Nat) "BronzeKingModel" "facts" "[I") ∈ lw_good := tg_5 208 rfl rfl
theorem g_1169 : (Jvm.Cond.fieldLink "BronzeKingModel" (74 : Nat) "BronzeKingModel" "newWall" "[I") ∈ lw_good := tg_5 209 rfl rfl
theorem g_1170 : (Jvm.Cond.fieldLink "BronzeKingModel" (246 : Nat) "BronzeKingModel" "rows" "I") ∈ lw_good := tg_5 210 rfl rfl
theorem g_1171 : (Jvm.Cond.fieldLink "BronzeKingModel" (258 : Nat) "BronzeKingModel" "lines" "I") ∈ lw_good := tg_5 211 rfl rfl
theorem g_1172 : (Jvm.Cond.fieldLink "BronzeKingModel" (308 : Nat) "BronzeKingModel" "stepsGone" "I") ∈ lw_good := tg_5 212 rfl rfl
theorem g_1173 : (Jvm.Cond.fieldLink "BronzeKingModel" (314 : Nat) "BronzeKingModel" "cameDown" "I") ∈ lw_good := tg_5 213 rfl rfl
theorem g_1174 : (Jvm.Cond.fieldLink "BronzeKingModel" (311 : Nat) "BronzeKingModel" "called" "I") ∈ lw_good := tg_5 214 rfl rfl
theorem g_1175 : (Jvm.Cond.fieldLink "BronzeKingModel" (77 : Nat) "BronzeKingModel" "weightNow" "[I") ∈ lw_good := tg_5 215 rfl rfl
theorem g_1176 : (Jvm.Cond.fieldLink "BronzeKingModel" (336 : Nat) "BronzeKingModel" "above" "I") ∈ lw_good := tg_5 216 rfl rfl
theorem g_1177 : (Jvm.Cond.fieldLink "BronzeKingModel" (339 : Nat) "BronzeKingModel" "below" "I") ∈ lw_good := tg_5 217 rfl rfl
theorem g_1178 : (Jvm.Cond.fieldLink "BronzeKingModel" (80 : Nat) "BronzeKingModel" "backFrom" "[I") ∈ lw_good := tg_5 218 rfl rfl
theorem g_1179 : (Jvm.Cond.fieldLink "BronzeKingModel" (83 : Nat) "BronzeKingModel" "rowBest" "[I") ∈ lw_good := tg_5 219 rfl rfl
theorem g_1180 : (Jvm.Cond.fieldLink "BronzeKingModel" (361 : Nat) "BronzeKingModel" "callMany" "I") ∈ lw_good := tg_5 220 rfl rfl
theorem g_1181 : (Jvm.Cond.fieldLink "BronzeKingModel" (358 : Nat) "BronzeKingModel" "callSteps" "I") ∈ lw_good := tg_5 221 rfl rfl
theorem g_1182 : (Jvm.Cond.fieldLink "BronzeKingModel" (86 : Nat) "BronzeKingModel" "costTo" "[I") ∈ lw_good := tg_5 222 rfl rfl
theorem g_1183 : (Jvm.Cond.fieldLink "BronzeKingModel" (89 : Nat) "BronzeKingModel" "surelyIn" "[B") ∈ lw_good := tg_5 223 rfl rfl
theorem g_1184 : (Jvm.Cond.fieldLink "BronzeKingModel" (92 : Nat) "BronzeKingModel" "isNew" "[Z") ∈ lw_good := tg_5 224 rfl rfl
theorem g_1185 : (Jvm.Cond.fieldLink "BronzeKingModel" (96 : Nat) "BronzeKingModel" "lowNear" "[J") ∈ lw_good := tg_5 225 rfl rfl
theorem g_1186 : (Jvm.Cond.fieldLink "BronzeKingModel" (100 : Nat) "BronzeKingModel" "highNear" "[J") ∈ lw_good := tg_5 226 rfl rfl
theorem g_1187 : (Jvm.Cond.fieldLink "BronzeKingModel" (103 : Nat) "BronzeKingModel" "isSeen" "[Z") ∈ lw_good := tg_5 227 rfl rfl
theorem g_1188 : (Jvm.Cond.fieldLink "BronzeKingModel" (424 : Nat) "BronzeKingModel" "isKept" "Z") ∈ lw_good := tg_5 228 rfl rfl
theorem g_1298 : (Jvm.Cond.arrayClass Jvm.ClassFile.FieldType.boolean) ∈ lw_good := tg_6 98 rfl rfl
theorem g_1299 : (Jvm.Cond.methodLink "BronzeKingLaw" (17 : Nat) ({ cls := "BronzeKingModel", name := "square", desc := "(II)Z" } : Jvm.MethodName)) ∈ lw_good := tg_6 99 rfl rfl
theorem g_1300 : (Jvm.Cond.instanceMethod ({ cls := "BronzeKingModel", name := "square", desc := "(II)Z" } : Jvm.MethodName)) ∈ lw_good := tg_6 100 rfl rfl
theorem g_1301 : (Jvm.Cond.selects "BronzeKingModel" ({ cls := "BronzeKingModel", name := "square", desc := "(II)Z" } : Jvm.MethodName) ({ cls := "BronzeKingModel", name := "square", desc := "(II)Z" } : Jvm.MethodName)) ∈ lw_good := tg_6 101 rfl rfl
theorem g_1302 : (Jvm.Cond.code ({ cls := "BronzeKingModel", name := "square", desc := "(II)Z" } : Jvm.MethodName) prog_14_method_11_code (3 : Nat) (Option.some Jvm.ClassFile.FieldType.boolean)) ∈ lw_good := tg_6 102 rfl rfl
theorem g_1303 : (Jvm.Cond.methodLink "BronzeKingModel" (114 : Nat) ({ cls := "BronzeKingModel", name := "isPlace", desc := "(II)Z" } : Jvm.MethodName)) ∈ lw_good := tg_6 103 rfl rfl
theorem g_1304 : (Jvm.Cond.static ({ cls := "BronzeKingModel", name := "isPlace", desc := "(II)Z" } : Jvm.MethodName)) ∈ lw_good := tg_6 104 rfl rfl
theorem g_1305 : (Jvm.Cond.code ({ cls := "BronzeKingModel", name := "isPlace", desc := "(II)Z" } : Jvm.MethodName) prog_14_method_9_code (2 : Nat) (Option.some Jvm.ClassFile.FieldType.boolean)) ∈ lw_good := tg_6 105 rfl rfl
theorem g_1306 : (Jvm.Cond.methodLink "BronzeKingModel" (106 : Nat) ({ cls := "BronzeKingModel", name := "in", desc := "(III)Z" } : Jvm.MethodName)) ∈ lw_good := tg_6 106 rfl rfl
theorem g_1307 : (Jvm.Cond.static ({ cls := "BronzeKingModel", name := "in", desc := "(III)Z" } : Jvm.MethodName)) ∈ lw_good := tg_6 107 rfl rfl
theorem g_1308 : (Jvm.Cond.code ({ cls := "BronzeKingModel", name := "in", desc := "(III)Z" } : Jvm.MethodName) prog_14_method_2_code (3 : Nat) (Option.some Jvm.ClassFile.FieldType.boolean)) ∈ lw_good := tg_6 108 rfl rfl
theorem g_1309 : (Jvm.Cond.methodLink "BronzeKingLaw" (22 : Nat) ({ cls := "BronzeKingModel", name := "door", desc := "(III)Z" } : Jvm.MethodName)) ∈ lw_good := tg_6 109 rfl rfl
theorem g_1310 : (Jvm.Cond.instanceMethod ({ cls := "BronzeKingModel", name := "door", desc := "(III)Z" } : Jvm.MethodName)) ∈ lw_good := tg_6 110 rfl rfl
theorem g_1311 : (Jvm.Cond.selects "BronzeKingModel" ({ cls := "BronzeKingModel", name := "door", desc := "(III)Z" } : Jvm.MethodName) ({ cls := "BronzeKingModel", name := "door", desc := "(III)Z" } : Jvm.MethodName)) ∈ lw_good := tg_6 111 rfl rfl
theorem g_1312 : (Jvm.Cond.code ({ cls := "BronzeKingModel", name := "door", desc := "(III)Z" } : Jvm.MethodName) prog_14_method_12_code (4 : Nat) (Option.some Jvm.ClassFile.FieldType.boolean)) ∈ lw_good := tg_6 112 rfl rfl
theorem g_1313 : (Jvm.Cond.methodLink "BronzeKingLaw" (27 : Nat) ({ cls := "BronzeKingModel", name := "feed", desc := "(IIIII)I" } : Jvm.MethodName)) ∈ lw_good := tg_6 113 rfl rfl
theorem g_1314 : (Jvm.Cond.instanceMethod ({ cls := "BronzeKingModel", name := "feed", desc := "(IIIII)I" } : Jvm.MethodName)) ∈ lw_good := tg_6 114 rfl rfl
theorem g_1315 : (Jvm.Cond.selects "BronzeKingModel" ({ cls := "BronzeKingModel", name := "feed", desc := "(IIIII)I" } : Jvm.MethodName) ({ cls := "BronzeKingModel", name := "feed", desc := "(IIIII)I" } : Jvm.MethodName)) ∈ lw_good := tg_6 115 rfl rfl
theorem g_1316 : (Jvm.Cond.code ({ cls := "BronzeKingModel", name := "feed", desc := "(IIIII)I" } : Jvm.MethodName) prog_14_method_19_code (6 : Nat) (Option.some Jvm.ClassFile.FieldType.int)) ∈ lw_good := tg_6 116 rfl rfl
theorem g_1317 : (Jvm.Cond.methodLink "BronzeKingModel" (140 : Nat) ({ cls := "BronzeKingModel", name := "types", desc := "(I)V" } : Jvm.MethodName)) ∈ lw_good := tg_6 117 rfl rfl
theorem g_1319 : (Jvm.Cond.instanceMethod ({ cls := "BronzeKingModel", name := "types", desc := "(I)V" } : Jvm.MethodName)) ∈ lw_good := tg_6 119 rfl rfl
theorem g_1320 : (Jvm.Cond.code ({ cls := "BronzeKingModel", name := "types", desc := "(I)V" } : Jvm.MethodName) prog_14_method_18_code (3 : Nat) (Option.none : Option Jvm.ClassFile.FieldType)) ∈ lw_good := tg_6 120 rfl rfl
theorem g_1321 : (Jvm.Cond.methodLink "BronzeKingLaw" (32 : Nat) ({ cls := "BronzeKingModel", name := "law", desc := "(I)I" } : Jvm.MethodName)) ∈ lw_good := tg_6 121 rfl rfl
theorem g_1322 : (Jvm.Cond.instanceMethod ({ cls := "BronzeKingModel", name := "law", desc := "(I)I" } : Jvm.MethodName)) ∈ lw_good := tg_6 122 rfl rfl
theorem g_1323 : (Jvm.Cond.selects "BronzeKingModel" ({ cls := "BronzeKingModel", name := "law", desc := "(I)I" } : Jvm.MethodName) ({ cls := "BronzeKingModel", name := "law", desc := "(I)I" } : Jvm.MethodName)) ∈ lw_good := tg_6 123 rfl rfl
theorem g_1324 : (Jvm.Cond.code ({ cls := "BronzeKingModel", name := "law", desc := "(I)I" } : Jvm.MethodName) prog_14_method_42_code (4 : Nat) (Option.some Jvm.ClassFile.FieldType.int)) ∈ lw_good := tg_6 124 rfl rfl
theorem g_1325 : (Jvm.Cond.methodLink "BronzeKingModel" (227 : Nat) ({ cls := "BronzeKingModel", name := "beginsText", desc := "(I)V" } : Jvm.MethodName)) ∈ lw_good := tg_6 125 rfl rfl
theorem g_1327 : (Jvm.Cond.instanceMethod ({ cls := "BronzeKingModel", name := "beginsText", desc := "(I)V" } : Jvm.MethodName)) ∈ lw_good := tg_6 127 rfl rfl
theorem g_1328 : (Jvm.Cond.code ({ cls := "BronzeKingModel", name := "beginsText", desc := "(I)V" } : Jvm.MethodName) prog_14_method_41_code (2 : Nat) (Option.none : Option Jvm.ClassFile.FieldType)) ∈ lw_good := tg_6 128 rfl rfl
theorem g_1329 : (Jvm.Cond.methodLink "BronzeKingModel" (230 : Nat) ({ cls := "BronzeKingModel", name := "readsRule", desc := "()Z" } : Jvm.MethodName)) ∈ lw_good := tg_6 129 rfl rfl
theorem g_1331 : (Jvm.Cond.instanceMethod ({ cls := "BronzeKingModel", name := "readsRule", desc := "()Z" } : Jvm.MethodName)) ∈ lw_good := tg_6 131 rfl rfl
theorem g_1332 : (Jvm.Cond.code ({ cls := "BronzeKingModel", name := "readsRule", desc := "()Z" } : Jvm.MethodName) prog_14_method_40_code (2 : Nat) (Option.some Jvm.ClassFile.FieldType.boolean)) ∈ lw_good := tg_6 132 rfl rfl
theorem g_1333 : (Jvm.Cond.methodLink "BronzeKingModel" (149 : Nat) ({ cls := "BronzeKingModel", name := "here", desc := "()I" } : Jvm.MethodName)) ∈ lw_good := tg_6 133 rfl rfl
theorem g_1335 : (Jvm.Cond.instanceMethod ({ cls := "BronzeKingModel", name := "here", desc := "()I" } : Jvm.MethodName)) ∈ lw_good := tg_6 135 rfl rfl
theorem g_1336 : (Jvm.Cond.code ({ cls := "BronzeKingModel", name := "here", desc := "()I" } : Jvm.MethodName) prog_14_method_21_code (1 : Nat) (Option.some Jvm.ClassFile.FieldType.int)) ∈ lw_good := tg_6 136 rfl rfl
theorem g_1337 : (Jvm.Cond.methodLink "BronzeKingModel" (156 : Nat) ({ cls := "BronzeKingModel", name := "wrongAt", desc := "(II)Z" } : Jvm.MethodName)) ∈ lw_good := tg_6 137 rfl rfl
theorem g_1339 : (Jvm.Cond.instanceMethod ({ cls := "BronzeKingModel", name := "wrongAt", desc := "(II)Z" } : Jvm.MethodName)) ∈ lw_good := tg_6 139 rfl rfl
theorem g_1340 : (Jvm.Cond.code ({ cls := "BronzeKingModel", name := "wrongAt", desc := "(II)Z" } : Jvm.MethodName) prog_14_method_23_code (3 : Nat) (Option.some Jvm.ClassFile.FieldType.boolean)) ∈ lw_good := tg_6 140 rfl rfl
theorem g_1341 : (Jvm.Cond.methodLink "BronzeKingModel" (206 : Nat) ({ cls := "BronzeKingModel", name := "readsSum", desc := "()Z" } : Jvm.MethodName)) ∈ lw_good := tg_6 141 rfl rfl
theorem g_1343 : (Jvm.Cond.instanceMethod ({ cls := "BronzeKingModel", name := "readsSum", desc := "()Z" } : Jvm.MethodName)) ∈ lw_good := tg_6 143 rfl rfl
theorem g_1344 : (Jvm.Cond.code ({ cls := "BronzeKingModel", name := "readsSum", desc := "()Z" } : Jvm.MethodName) prog_14_method_34_code (3 : Nat) (Option.some Jvm.ClassFile.FieldType.boolean)) ∈ lw_good := tg_6 144 rfl rfl
theorem g_1345 : (Jvm.Cond.methodLink "BronzeKingModel" (193 : Nat) ({ cls := "BronzeKingModel", name := "readsFactor", desc := "()Z" } : Jvm.MethodName)) ∈ lw_good := tg_6 145 rfl rfl
theorem g_1347 : (Jvm.Cond.instanceMethod ({ cls := "BronzeKingModel", name := "readsFactor", desc := "()Z" } : Jvm.MethodName)) ∈ lw_good := tg_6 147 rfl rfl
theorem g_1348 : (Jvm.Cond.code ({ cls := "BronzeKingModel", name := "readsFactor", desc := "()Z" } : Jvm.MethodName) prog_14_method_32_code (2 : Nat) (Option.some Jvm.ClassFile.FieldType.boolean)) ∈ lw_good := tg_6 148 rfl rfl
theorem g_1349 : (Jvm.Cond.methodLink "BronzeKingModel" (183 : Nat) ({ cls := "BronzeKingModel", name := "opens", desc := "(I)Z" } : Jvm.MethodName)) ∈ lw_good := tg_6 149 rfl rfl
theorem g_1351 : (Jvm.Cond.instanceMethod ({ cls := "BronzeKingModel", name := "opens", desc := "(I)Z" } : Jvm.MethodName)) ∈ lw_good := tg_6 151 rfl rfl
theorem g_1352 : (Jvm.Cond.code ({ cls := "BronzeKingModel", name := "opens", desc := "(I)Z" } : Jvm.MethodName) prog_14_method_27_code (2 : Nat) (Option.some Jvm.ClassFile.FieldType.boolean)) ∈ lw_good := tg_6 152 rfl rfl
theorem g_1353 : (Jvm.Cond.constant "BronzeKingModel" (169 : Nat) (1048576 : Int32)) ∈ lw_good := tg_6 153 rfl rfl
theorem g_1354 : (Jvm.Cond.methodLink "BronzeKingModel" (162 : Nat) ({ cls := "BronzeKingModel", name := "isDigit", desc := "()Z" } : Jvm.MethodName)) ∈ lw_good := tg_6 154 rfl rfl
theorem g_1356 : (Jvm.Cond.instanceMethod ({ cls := "BronzeKingModel", name := "isDigit", desc := "()Z" } : Jvm.MethodName)) ∈ lw_good := tg_6 156 rfl rfl
theorem g_1357 : (Jvm.Cond.code ({ cls := "BronzeKingModel", name := "isDigit", desc := "()Z" } : Jvm.MethodName) prog_14_method_22_code (1 : Nat) (Option.some Jvm.ClassFile.FieldType.boolean)) ∈ lw_good := tg_6 157 rfl rfl
theorem g_1358 : (Jvm.Cond.methodLink "BronzeKingModel" (186 : Nat) ({ cls := "BronzeKingModel", name := "readsNumber", desc := "()Z" } : Jvm.MethodName)) ∈ lw_good := tg_6 158 rfl rfl
theorem g_1360 : (Jvm.Cond.instanceMethod ({ cls := "BronzeKingModel", name := "readsNumber", desc := "()Z" } : Jvm.MethodName)) ∈ lw_good := tg_6 160 rfl rfl
theorem g_1361 : (Jvm.Cond.code ({ cls := "BronzeKingModel", name := "readsNumber", desc := "()Z" } : Jvm.MethodName) prog_14_method_25_code (2 : Nat) (Option.some Jvm.ClassFile.FieldType.boolean)) ∈ lw_good := tg_6 161 rfl rfl
theorem g_1362 : (Jvm.Cond.methodLink "BronzeKingModel" (179 : Nat) ({ cls := "BronzeKingModel", name := "codesOf", desc := "(II)V" } : Jvm.MethodName)) ∈ lw_good := tg_6 162 rfl rfl
theorem g_1364 : (Jvm.Cond.instanceMethod ({ cls := "BronzeKingModel", name := "codesOf", desc := "(II)V" } : Jvm.MethodName)) ∈ lw_good := tg_6 164 rfl rfl
theorem g_1365 : (Jvm.Cond.code ({ cls := "BronzeKingModel", name := "codesOf", desc := "(II)V" } : Jvm.MethodName) prog_14_method_26_code (3 : Nat) (Option.none : Option Jvm.ClassFile.FieldType)) ∈ lw_good := tg_6 165 rfl rfl
theorem g_1366 : (Jvm.Cond.methodLink "BronzeKingModel" (189 : Nat) ({ cls := "BronzeKingModel", name := "factOf", desc := "(I)I" } : Jvm.MethodName)) ∈ lw_good := tg_6 166 rfl rfl
theorem g_1367 : (Jvm.Cond.static ({ cls := "BronzeKingModel", name := "factOf", desc := "(I)I" } : Jvm.MethodName)) ∈ lw_good := tg_6 167 rfl rfl
theorem g_1368 : (Jvm.Cond.code ({ cls := "BronzeKingModel", name := "factOf", desc := "(I)I" } : Jvm.MethodName) prog_14_method_29_code (1 : Nat) (Option.some Jvm.ClassFile.FieldType.int)) ∈ lw_good := tg_6 168 rfl rfl
theorem g_1369 : (Jvm.Cond.methodLink "BronzeKingModel" (196 : Nat) ({ cls := "BronzeKingModel", name := "sumSign", desc := "(I)I" } : Jvm.MethodName)) ∈ lw_good := tg_6 169 rfl rfl
theorem g_1370 : (Jvm.Cond.static ({ cls := "BronzeKingModel", name := "sumSign", desc := "(I)I" } : Jvm.MethodName)) ∈ lw_good := tg_6 170 rfl rfl
theorem g_1371 : (Jvm.Cond.code ({ cls := "BronzeKingModel", name := "sumSign", desc := "(I)I" } : Jvm.MethodName) prog_14_method_30_code (1 : Nat) (Option.some Jvm.ClassFile.FieldType.int)) ∈ lw_good := tg_6 171 rfl rfl
theorem g_1372 : (Jvm.Cond.methodLink "BronzeKingModel" (199 : Nat) ({ cls := "BronzeKingModel", name := "closesSums", desc := "(Z)V" } : Jvm.MethodName)) ∈ lw_good := tg_6 172 rfl rfl
theorem g_1374 : (Jvm.Cond.instanceMethod ({ cls := "BronzeKingModel", name := "closesSums", desc := "(Z)V" } : Jvm.MethodName)) ∈ lw_good := tg_6 174 rfl rfl
theorem g_1375 : (Jvm.Cond.code ({ cls := "BronzeKingModel", name := "closesSums", desc := "(Z)V" } : Jvm.MethodName) prog_14_method_31_code (2 : Nat) (Option.none : Option Jvm.ClassFile.FieldType)) ∈ lw_good := tg_6 175 rfl rfl
theorem g_1376 : (Jvm.Cond.methodLink "BronzeKingModel" (176 : Nat) ({ cls := "BronzeKingModel", name := "waitTop", desc := "()I" } : Jvm.MethodName)) ∈ lw_good := tg_6 176 rfl rfl
theorem g_1378 : (Jvm.Cond.instanceMethod ({ cls := "BronzeKingModel", name := "waitTop", desc := "()I" } : Jvm.MethodName)) ∈ lw_good := tg_6 178 rfl rfl
theorem g_1379 : (Jvm.Cond.code ({ cls := "BronzeKingModel", name := "waitTop", desc := "()I" } : Jvm.MethodName) prog_14_method_28_code (1 : Nat) (Option.some Jvm.ClassFile.FieldType.int)) ∈ lw_good := tg_6 179 rfl rfl
theorem g_1380 : (Jvm.Cond.methodLink "BronzeKingModel" (203 : Nat) ({ cls := "BronzeKingModel", name := "hasOpenSum", desc := "(I)Z" } : Jvm.MethodName)) ∈ lw_good := tg_6 180 rfl rfl
theorem g_1382 : (Jvm.Cond.instanceMethod ({ cls := "BronzeKingModel", name := "hasOpenSum", desc := "(I)Z" } : Jvm.MethodName)) ∈ lw_good := tg_6 182 rfl rfl
theorem g_1383 : (Jvm.Cond.code ({ cls := "BronzeKingModel", name := "hasOpenSum", desc := "(I)Z" } : Jvm.MethodName) prog_14_method_33_code (3 : Nat) (Option.some Jvm.ClassFile.FieldType.boolean)) ∈ lw_good := tg_6 183 rfl rfl
theorem g_1384 : (Jvm.Cond.methodLink "BronzeKingModel" (224 : Nat) ({ cls := "BronzeKingModel", name := "readsCondition", desc := "()Z" } : Jvm.MethodName)) ∈ lw_good := tg_6 184 rfl rfl
theorem g_1386 : (Jvm.Cond.instanceMethod ({ cls := "BronzeKingModel", name := "readsCondition", desc := "()Z" } : Jvm.MethodName)) ∈ lw_good := tg_6 186 rfl rfl
theorem g_1387 : (Jvm.Cond.code ({ cls := "BronzeKingModel", name := "readsCondition", desc := "()Z" } : Jvm.MethodName) prog_14_method_39_code (1 : Nat) (Option.some Jvm.ClassFile.FieldType.boolean)) ∈ lw_good := tg_6 187 rfl rfl
theorem g_1388 : (Jvm.Cond.methodLink "BronzeKingModel" (212 : Nat) ({ cls := "BronzeKingModel", name := "readsCompared", desc := "()Z" } : Jvm.MethodName)) ∈ lw_good := tg_6 188 rfl rfl
theorem g_1390 : (Jvm.Cond.instanceMethod ({ cls := "BronzeKingModel", name := "readsCompared", desc := "()Z" } : Jvm.MethodName)) ∈ lw_good := tg_6 190 rfl rfl
theorem g_1391 : (Jvm.Cond.code ({ cls := "BronzeKingModel", name := "readsCompared", desc := "()Z" } : Jvm.MethodName) prog_14_method_38_code (2 : Nat) (Option.some Jvm.ClassFile.FieldType.boolean)) ∈ lw_good := tg_6 191 rfl rfl
theorem g_1392 : (Jvm.Cond.methodLink "BronzeKingModel" (209 : Nat) ({ cls := "BronzeKingModel", name := "endsPiece", desc := "()V" } : Jvm.MethodName)) ∈ lw_good := tg_6 192 rfl rfl
theorem g_1394 : (Jvm.Cond.instanceMethod ({ cls := "BronzeKingModel", name := "endsPiece", desc := "()V" } : Jvm.MethodName)) ∈ lw_good := tg_6 194 rfl rfl
theorem g_1395 : (Jvm.Cond.code ({ cls := "BronzeKingModel", name := "endsPiece", desc := "()V" } : Jvm.MethodName) prog_14_method_35_code (1 : Nat) (Option.none : Option Jvm.ClassFile.FieldType)) ∈ lw_good := tg_6 195 rfl rfl
theorem g_1396 : (Jvm.Cond.methodLink "BronzeKingModel" (215 : Nat) ({ cls := "BronzeKingModel", name := "lands", desc := "(Z)V" } : Jvm.MethodName)) ∈ lw_good := tg_6 196 rfl rfl
theorem g_1398 : (Jvm.Cond.instanceMethod ({ cls := "BronzeKingModel", name := "lands", desc := "(Z)V" } : Jvm.MethodName)) ∈ lw_good := tg_6 198 rfl rfl
theorem g_1399 : (Jvm.Cond.code ({ cls := "BronzeKingModel", name := "lands", desc := "(Z)V" } : Jvm.MethodName) prog_14_method_36_code (3 : Nat) (Option.none : Option Jvm.ClassFile.FieldType)) ∈ lw_good := tg_6 199 rfl rfl
theorem g_1400 : (Jvm.Cond.methodLink "BronzeKingModel" (218 : Nat) ({ cls := "BronzeKingModel", name := "jumps", desc := "(I)V" } : Jvm.MethodName)) ∈ lw_good := tg_6 200 rfl rfl
theorem g_1402 : (Jvm.Cond.instanceMethod ({ cls := "BronzeKingModel", name := "jumps", desc := "(I)V" } : Jvm.MethodName)) ∈ lw_good := tg_6 202 rfl rfl
theorem g_1403 : (Jvm.Cond.code ({ cls := "BronzeKingModel", name := "jumps", desc := "(I)V" } : Jvm.MethodName) prog_14_method_37_code (2 : Nat) (Option.none : Option Jvm.ClassFile.FieldType)) ∈ lw_good := tg_6 203 rfl rfl
theorem g_1404 : (Jvm.Cond.methodLink "BronzeKingModel" (233 : Nat) ({ cls := "BronzeKingModel", name := "takes", desc := "(I)Z" } : Jvm.MethodName)) ∈ lw_good := tg_6 204 rfl rfl
theorem g_1406 : (Jvm.Cond.instanceMethod ({ cls := "BronzeKingModel", name := "takes", desc := "(I)Z" } : Jvm.MethodName)) ∈ lw_good := tg_6 206 rfl rfl
theorem g_1407 : (Jvm.Cond.code ({ cls := "BronzeKingModel", name := "takes", desc := "(I)Z" } : Jvm.MethodName) prog_14_method_24_code (2 : Nat) (Option.some Jvm.ClassFile.FieldType.boolean)) ∈ lw_good := tg_6 207 rfl rfl
theorem g_1408 : (Jvm.Cond.methodLink "BronzeKingLaw" (36 : Nat) ({ cls := "BronzeKingModel", name := "map", desc := "(I)I" } : Jvm.MethodName)) ∈ lw_good := tg_6 208 rfl rfl
theorem g_1409 : (Jvm.Cond.instanceMethod ({ cls := "BronzeKingModel", name := "map", desc := "(I)I" } : Jvm.MethodName)) ∈ lw_good := tg_6 209 rfl rfl
theorem g_1410 : (Jvm.Cond.selects "BronzeKingModel" ({ cls := "BronzeKingModel", name := "map", desc := "(I)I" } : Jvm.MethodName) ({ cls := "BronzeKingModel", name := "map", desc := "(I)I" } : Jvm.MethodName)) ∈ lw_good := tg_6 210 rfl rfl
theorem g_1411 : (Jvm.Cond.code ({ cls := "BronzeKingModel", name := "map", desc := "(I)I" } : Jvm.MethodName) prog_14_method_50_code (4 : Nat) (Option.some Jvm.ClassFile.FieldType.int)) ∈ lw_good := tg_6 211 rfl rfl
theorem g_1412 : (Jvm.Cond.methodLink "BronzeKingModel" (255 : Nat) ({ cls := "BronzeKingModel", name := "readsRow", desc := "()Z" } : Jvm.MethodName)) ∈ lw_good := tg_6 212 rfl rfl
theorem g_1414 : (Jvm.Cond.instanceMethod ({ cls := "BronzeKingModel", name := "readsRow", desc := "()Z" } : Jvm.MethodName)) ∈ lw_good := tg_6 214 rfl rfl
theorem g_1415 : (Jvm.Cond.code ({ cls := "BronzeKingModel", name := "readsRow", desc := "()Z" } : Jvm.MethodName) prog_14_method_49_code (2 : Nat) (Option.some Jvm.ClassFile.FieldType.boolean)) ∈ lw_good := tg_6 215 rfl rfl
theorem g_1416 : (Jvm.Cond.methodLink "BronzeKingModel" (249 : Nat) ({ cls := "BronzeKingModel", name := "canBeginSign", desc := "(I)Z" } : Jvm.MethodName)) ∈ lw_good := tg_6 216 rfl rfl
theorem g_1417 : (Jvm.Cond.static ({ cls := "BronzeKingModel", name := "canBeginSign", desc := "(I)Z" } : Jvm.MethodName)) ∈ lw_good := tg_6 217 rfl rfl
theorem g_1418 : (Jvm.Cond.code ({ cls := "BronzeKingModel", name := "canBeginSign", desc := "(I)Z" } : Jvm.MethodName) prog_14_method_48_code (1 : Nat) (Option.some Jvm.ClassFile.FieldType.boolean)) ∈ lw_good := tg_6 218 rfl rfl
theorem g_1419 : (Jvm.Cond.methodLink "BronzeKingModel" (252 : Nat) ({ cls := "BronzeKingModel", name := "readsSign", desc := "(I)I" } : Jvm.MethodName)) ∈ lw_good := tg_6 219 rfl rfl
theorem g_1421 : (Jvm.Cond.instanceMethod ({ cls := "BronzeKingModel", name := "readsSign", desc := "(I)I" } : Jvm.MethodName)) ∈ lw_good := tg_6 221 rfl rfl
theorem g_1422 : (Jvm.Cond.code ({ cls := "BronzeKingModel", name := "readsSign", desc := "(I)I" } : Jvm.MethodName) prog_14_method_47_code (7 : Nat) (Option.some Jvm.ClassFile.FieldType.int)) ∈ lw_good := tg_6 222 rfl rfl
theorem g_1423 : (Jvm.Cond.methodLink "BronzeKingLaw" (40 : Nat) ({ cls := "BronzeKingModel", name := "notes", desc := "(I)I" } : Jvm.MethodName)) ∈ lw_good := tg_6 223 rfl rfl
theorem g_1424 : (Jvm.Cond.instanceMethod ({ cls := "BronzeKingModel", name := "notes", desc := "(I)I" } : Jvm.MethodName)) ∈ lw_good := tg_6 224 rfl rfl
theorem g_1425 : (Jvm.Cond.selects "BronzeKingModel" ({ cls := "BronzeKingModel", name := "notes", desc := "(I)I" } : Jvm.MethodName) ({ cls := "BronzeKingModel", name := "notes", desc := "(I)I" } : Jvm.MethodName)) ∈ lw_good := tg_6 225 rfl rfl
theorem g_1426 : (Jvm.Cond.code ({ cls := "BronzeKingModel", name := "notes", desc := "(I)I" } : Jvm.MethodName) prog_14_method_53_code (4 : Nat) (Option.some Jvm.ClassFile.FieldType.int)) ∈ lw_good := tg_6 226 rfl rfl
theorem g_1427 : (Jvm.Cond.methodLink "BronzeKingModel" (267 : Nat) ({ cls := "BronzeKingModel", name := "readsNote", desc := "()Z" } : Jvm.MethodName)) ∈ lw_good := tg_6 227 rfl rfl
theorem g_1429 : (Jvm.Cond.instanceMethod ({ cls := "BronzeKingModel", name := "readsNote", desc := "()Z" } : Jvm.MethodName)) ∈ lw_good := tg_6 229 rfl rfl
theorem g_1430 : (Jvm.Cond.code ({ cls := "BronzeKingModel", name := "readsNote", desc := "()Z" } : Jvm.MethodName) prog_14_method_52_code (6 : Nat) (Option.some Jvm.ClassFile.FieldType.boolean)) ∈ lw_good := tg_6 230 rfl rfl
theorem g_1431 : (Jvm.Cond.methodLink "BronzeKingModel" (261 : Nat) ({ cls := "BronzeKingModel", name := "readsHour", desc := "()Z" } : Jvm.MethodName)) ∈ lw_good := tg_6 231 rfl rfl
theorem g_1433 : (Jvm.Cond.instanceMethod ({ cls := "BronzeKingModel", name := "readsHour", desc := "()Z" } : Jvm.MethodName)) ∈ lw_good := tg_6 233 rfl rfl
theorem g_1434 : (Jvm.Cond.code ({ cls := "BronzeKingModel", name := "readsHour", desc := "()Z" } : Jvm.MethodName) prog_14_method_51_code (2 : Nat) (Option.some Jvm.ClassFile.FieldType.boolean)) ∈ lw_good := tg_6 234 rfl rfl
theorem g_1435 : (Jvm.Cond.methodLink "BronzeKingLaw" (44 : Nat) ({ cls := "BronzeKingModel", name := "days", desc := "(I)I" } : Jvm.MethodName)) ∈ lw_good := tg_6 235 rfl rfl
theorem g_1436 : (Jvm.Cond.instanceMethod ({ cls := "BronzeKingModel", name := "days", desc := "(I)I" } : Jvm.MethodName)) ∈ lw_good := tg_6 236 rfl rfl
theorem g_1437 : (Jvm.Cond.selects "BronzeKingModel" ({ cls := "BronzeKingModel", name := "days", desc := "(I)I" } : Jvm.MethodName) ({ cls := "BronzeKingModel", name := "days", desc := "(I)I" } : Jvm.MethodName)) ∈ lw_good := tg_6 237 rfl rfl
theorem g_1438 : (Jvm.Cond.code ({ cls := "BronzeKingModel", name := "days", desc := "(I)I" } : Jvm.MethodName) prog_14_method_62_code (2 : Nat) (Option.some Jvm.ClassFile.FieldType.int)) ∈ lw_good := tg_6 238 rfl rfl
theorem g_1439 : (Jvm.Cond.methodLink "BronzeKingModel" (320 : Nat) ({ cls := "BronzeKingModel", name := "daysGo", desc := "(I)I" } : Jvm.MethodName)) ∈ lw_good := tg_6 239 rfl rfl
theorem g_1441 : (Jvm.Cond.instanceMethod ({ cls := "BronzeKingModel", name := "daysGo", desc := "(I)I" } : Jvm.MethodName)) ∈ lw_good := tg_7 1 rfl rfl
theorem g_1442 : (Jvm.Cond.code ({ cls := "BronzeKingModel", name := "daysGo", desc := "(I)I" } : Jvm.MethodName) prog_14_method_61_code (4 : Nat) (Option.some Jvm.ClassFile.FieldType.int)) ∈ lw_good := tg_7 2 rfl rfl
theorem g_1443 : (Jvm.Cond.methodLink "BronzeKingModel" (317 : Nat) ({ cls := "BronzeKingModel", name := "dayGoes", desc := "()V" } : Jvm.MethodName)) ∈ lw_good := tg_7 3 rfl rfl
theorem g_1445 : (Jvm.Cond.instanceMethod ({ cls := "BronzeKingModel", name := "dayGoes", desc := "()V" } : Jvm.MethodName)) ∈ lw_good := tg_7 5 rfl rfl
theorem g_1446 : (Jvm.Cond.code ({ cls := "BronzeKingModel", name := "dayGoes", desc := "()V" } : Jvm.MethodName) prog_14_method_60_code (5 : Nat) (Option.none : Option Jvm.ClassFile.FieldType)) ∈ lw_good := tg_7 6 rfl rfl
theorem g_1447 : (Jvm.Cond.methodLink "BronzeKingModel" (293 : Nat) ({ cls := "BronzeKingModel", name := "drawsHour", desc := "()I" } : Jvm.MethodName)) ∈ lw_good := tg_7 7 rfl rfl
theorem g_1449 : (Jvm.Cond.instanceMethod ({ cls := "BronzeKingModel", name := "drawsHour", desc := "()I" } : Jvm.MethodName)) ∈ lw_good := tg_7 9 rfl rfl
theorem g_1450 : (Jvm.Cond.code ({ cls := "BronzeKingModel", name := "drawsHour", desc := "()I" } : Jvm.MethodName) prog_14_method_56_code (4 : Nat) (Option.some Jvm.ClassFile.FieldType.int)) ∈ lw_good := tg_7 10 rfl rfl
theorem g_1451 : (Jvm.Cond.methodLink "BronzeKingModel" (276 : Nat) ({ cls := "BronzeKingModel", name := "allWeights", desc := "()I" } : Jvm.MethodName)) ∈ lw_good := tg_7 11 rfl rfl
theorem g_1453 : (Jvm.Cond.instanceMethod ({ cls := "BronzeKingModel", name := "allWeights", desc := "()I" } : Jvm.MethodName)) ∈ lw_good := tg_7 13 rfl rfl
theorem g_1454 : (Jvm.Cond.code ({ cls := "BronzeKingModel", name := "allWeights", desc := "()I" } : Jvm.MethodName) prog_14_method_55_code (3 : Nat) (Option.some Jvm.ClassFile.FieldType.int)) ∈ lw_good := tg_7 14 rfl rfl
theorem g_1455 : (Jvm.Cond.methodLink "BronzeKingModel" (273 : Nat) ({ cls := "BronzeKingModel", name := "weightOf", desc := "(I)I" } : Jvm.MethodName)) ∈ lw_good := tg_7 15 rfl rfl
theorem g_1457 : (Jvm.Cond.instanceMethod ({ cls := "BronzeKingModel", name := "weightOf", desc := "(I)I" } : Jvm.MethodName)) ∈ lw_good := tg_7 17 rfl rfl
theorem g_1458 : (Jvm.Cond.code ({ cls := "BronzeKingModel", name := "weightOf", desc := "(I)I" } : Jvm.MethodName) prog_14_method_54_code (3 : Nat) (Option.some Jvm.ClassFile.FieldType.int)) ∈ lw_good := tg_7 18 rfl rfl
theorem g_1459 : (Jvm.Cond.methodLink "BronzeKingModel" (270 : Nat) ({ cls := "BronzeKingModel", name := "byLaw", desc := "(II)I" } : Jvm.MethodName)) ∈ lw_good := tg_7 19 rfl rfl
theorem g_1461 : (Jvm.Cond.instanceMethod ({ cls := "BronzeKingModel", name := "byLaw", desc := "(II)I" } : Jvm.MethodName)) ∈ lw_good := tg_7 21 rfl rfl
theorem g_1462 : (Jvm.Cond.code ({ cls := "BronzeKingModel", name := "byLaw", desc := "(II)I" } : Jvm.MethodName) prog_14_method_45_code (5 : Nat) (Option.some Jvm.ClassFile.FieldType.int)) ∈ lw_good := tg_7 22 rfl rfl
theorem g_1463 : (Jvm.Cond.methodLink "BronzeKingModel" (243 : Nat) ({ cls := "BronzeKingModel", name := "comesTo", desc := "(II)I" } : Jvm.MethodName)) ∈ lw_good := tg_7 23 rfl rfl
theorem g_1465 : (Jvm.Cond.instanceMethod ({ cls := "BronzeKingModel", name := "comesTo", desc := "(II)I" } : Jvm.MethodName)) ∈ lw_good := tg_7 25 rfl rfl
theorem g_1466 : (Jvm.Cond.code ({ cls := "BronzeKingModel", name := "comesTo", desc := "(II)I" } : Jvm.MethodName) prog_14_method_44_code (8 : Nat) (Option.some Jvm.ClassFile.FieldType.int)) ∈ lw_good := tg_7 26 rfl rfl
theorem g_1467 : (Jvm.Cond.methodLink "BronzeKingModel" (239 : Nat) ({ cls := "BronzeKingModel", name := "reckon", desc := "(III)I" } : Jvm.MethodName)) ∈ lw_good := tg_7 27 rfl rfl
theorem g_1468 : (Jvm.Cond.static ({ cls := "BronzeKingModel", name := "reckon", desc := "(III)I" } : Jvm.MethodName)) ∈ lw_good := tg_7 28 rfl rfl
theorem g_1469 : (Jvm.Cond.code ({ cls := "BronzeKingModel", name := "reckon", desc := "(III)I" } : Jvm.MethodName) prog_14_method_43_code (3 : Nat) (Option.some Jvm.ClassFile.FieldType.int)) ∈ lw_good := tg_7 29 rfl rfl
theorem g_1470 : (Jvm.Cond.constant "BronzeKingModel" (279 : Nat) (65536 : Int32)) ∈ lw_good := tg_7 30 rfl rfl
theorem g_1471 : (Jvm.Cond.methodLink "BronzeKingModel" (296 : Nat) ({ cls := "BronzeKingModel", name := "goesTo", desc := "(III)I" } : Jvm.MethodName)) ∈ lw_good := tg_7 31 rfl rfl
theorem g_1473 : (Jvm.Cond.instanceMethod ({ cls := "BronzeKingModel", name := "goesTo", desc := "(III)I" } : Jvm.MethodName)) ∈ lw_good := tg_7 33 rfl rfl
theorem g_1474 : (Jvm.Cond.code ({ cls := "BronzeKingModel", name := "goesTo", desc := "(III)I" } : Jvm.MethodName) prog_14_method_59_code (10 : Nat) (Option.some Jvm.ClassFile.FieldType.int)) ∈ lw_good := tg_7 34 rfl rfl
theorem g_1475 : (Jvm.Cond.methodLink "BronzeKingModel" (134 : Nat) ({ cls := "BronzeKingModel", name := "steps", desc := "(II)I" } : Jvm.MethodName)) ∈ lw_good := tg_7 35 rfl rfl
theorem g_1477 : (Jvm.Cond.instanceMethod ({ cls := "BronzeKingModel", name := "steps", desc := "(II)I" } : Jvm.MethodName)) ∈ lw_good := tg_7 37 rfl rfl
theorem g_1478 : (Jvm.Cond.code ({ cls := "BronzeKingModel", name := "steps", desc := "(II)I" } : Jvm.MethodName) prog_14_method_15_code (4 : Nat) (Option.some Jvm.ClassFile.FieldType.int)) ∈ lw_good := tg_7 38 rfl rfl
theorem g_1479 : (Jvm.Cond.methodLink "BronzeKingModel" (130 : Nat) ({ cls := "BronzeKingModel", name := "laysFrom", desc := "(I)V" } : Jvm.MethodName)) ∈ lw_good := tg_7 39 rfl rfl
theorem g_1481 : (Jvm.Cond.instanceMethod ({ cls := "BronzeKingModel", name := "laysFrom", desc := "(I)V" } : Jvm.MethodName)) ∈ lw_good := tg_7 41 rfl rfl
theorem g_1482 : (Jvm.Cond.code ({ cls := "BronzeKingModel", name := "laysFrom", desc := "(I)V" } : Jvm.MethodName) prog_14_method_14_code (6 : Nat) (Option.none : Option Jvm.ClassFile.FieldType)) ∈ lw_good := tg_7 42 rfl rfl
theorem g_1483 : (Jvm.Cond.methodLink "BronzeKingModel" (122 : Nat) ({ cls := "BronzeKingModel", name := "isOpen", desc := "(I)Z" } : Jvm.MethodName)) ∈ lw_good := tg_7 43 rfl rfl
theorem g_1485 : (Jvm.Cond.instanceMethod ({ cls := "BronzeKingModel", name := "isOpen", desc := "(I)Z" } : Jvm.MethodName)) ∈ lw_good := tg_7 45 rfl rfl
theorem g_1486 : (Jvm.Cond.code ({ cls := "BronzeKingModel", name := "isOpen", desc := "(I)Z" } : Jvm.MethodName) prog_14_method_10_code (2 : Nat) (Option.some Jvm.ClassFile.FieldType.boolean)) ∈ lw_good := tg_7 46 rfl rfl
theorem g_1487 : (Jvm.Cond.methodLink "BronzeKingModel" (126 : Nat) ({ cls := "BronzeKingModel", name := "beside", desc := "(II)I" } : Jvm.MethodName)) ∈ lw_good := tg_7 47 rfl rfl
theorem g_1488 : (Jvm.Cond.static ({ cls := "BronzeKingModel", name := "beside", desc := "(II)I" } : Jvm.MethodName)) ∈ lw_good := tg_7 48 rfl rfl
theorem g_1489 : (Jvm.Cond.code ({ cls := "BronzeKingModel", name := "beside", desc := "(II)I" } : Jvm.MethodName) prog_14_method_13_code (4 : Nat) (Option.some Jvm.ClassFile.FieldType.int)) ∈ lw_good := tg_7 49 rfl rfl
theorem g_1490 : (Jvm.Cond.methodLink "BronzeKingModel" (286 : Nat) ({ cls := "BronzeKingModel", name := "feelsAt", desc := "(III)V" } : Jvm.MethodName)) ∈ lw_good := tg_7 50 rfl rfl
theorem g_1492 : (Jvm.Cond.instanceMethod ({ cls := "BronzeKingModel", name := "feelsAt", desc := "(III)V" } : Jvm.MethodName)) ∈ lw_good := tg_7 52 rfl rfl
theorem g_1493 : (Jvm.Cond.code ({ cls := "BronzeKingModel", name := "feelsAt", desc := "(III)V" } : Jvm.MethodName) prog_14_method_58_code (4 : Nat) (Option.none : Option Jvm.ClassFile.FieldType)) ∈ lw_good := tg_7 53 rfl rfl
theorem g_1494 : (Jvm.Cond.methodLink "BronzeKingModel" (280 : Nat) ({ cls := "BronzeKingModel", name := "toDoorNine", desc := "(I)I" } : Jvm.MethodName)) ∈ lw_good := tg_7 54 rfl rfl
theorem g_1496 : (Jvm.Cond.instanceMethod ({ cls := "BronzeKingModel", name := "toDoorNine", desc := "(I)I" } : Jvm.MethodName)) ∈ lw_good := tg_7 56 rfl rfl
theorem g_1497 : (Jvm.Cond.code ({ cls := "BronzeKingModel", name := "toDoorNine", desc := "(I)I" } : Jvm.MethodName) prog_14_method_16_code (2 : Nat) (Option.some Jvm.ClassFile.FieldType.int)) ∈ lw_good := tg_7 57 rfl rfl
theorem g_1498 : (Jvm.Cond.methodLink "BronzeKingModel" (283 : Nat) ({ cls := "BronzeKingModel", name := "bits", desc := "(I)I" } : Jvm.MethodName)) ∈ lw_good := tg_7 58 rfl rfl
theorem g_1499 : (Jvm.Cond.static ({ cls := "BronzeKingModel", name := "bits", desc := "(I)I" } : Jvm.MethodName)) ∈ lw_good := tg_7 59 rfl rfl
theorem g_1500 : (Jvm.Cond.code ({ cls := "BronzeKingModel", name := "bits", desc := "(I)I" } : Jvm.MethodName) prog_14_method_7_code (3 : Nat) (Option.some Jvm.ClassFile.FieldType.int)) ∈ lw_good := tg_7 60 rfl rfl
theorem g_1501 : (Jvm.Cond.methodLink "BronzeKingModel" (290 : Nat) ({ cls := "BronzeKingModel", name := "holdsAny", desc := "(I)Z" } : Jvm.MethodName)) ∈ lw_good := tg_7 61 rfl rfl
theorem g_1503 : (Jvm.Cond.instanceMethod ({ cls := "BronzeKingModel", name := "holdsAny", desc := "(I)Z" } : Jvm.MethodName)) ∈ lw_good := tg_7 63 rfl rfl
theorem g_1504 : (Jvm.Cond.code ({ cls := "BronzeKingModel", name := "holdsAny", desc := "(I)Z" } : Jvm.MethodName) prog_14_method_46_code (3 : Nat) (Option.some Jvm.ClassFile.FieldType.boolean)) ∈ lw_good := tg_7 64 rfl rfl
theorem g_1505 : (Jvm.Cond.methodLink "BronzeKingModel" (299 : Nat) ({ cls := "BronzeKingModel", name := "min", desc := "(II)I" } : Jvm.MethodName)) ∈ lw_good := tg_7 65 rfl rfl
theorem g_1506 : (Jvm.Cond.static ({ cls := "BronzeKingModel", name := "min", desc := "(II)I" } : Jvm.MethodName)) ∈ lw_good := tg_7 66 rfl rfl
theorem g_1507 : (Jvm.Cond.code ({ cls := "BronzeKingModel", name := "min", desc := "(II)I" } : Jvm.MethodName) prog_14_method_3_code (2 : Nat) (Option.some Jvm.ClassFile.FieldType.int)) ∈ lw_good := tg_7 67 rfl rfl
theorem g_1508 : (Jvm.Cond.methodLink "BronzeKingModel" (302 : Nat) ({ cls := "BronzeKingModel", name := "doorsIn", desc := "(I)I" } : Jvm.MethodName)) ∈ lw_good := tg_7 68 rfl rfl
theorem g_1510 : (Jvm.Cond.instanceMethod ({ cls := "BronzeKingModel", name := "doorsIn", desc := "(I)I" } : Jvm.MethodName)) ∈ lw_good := tg_7 70 rfl rfl
theorem g_1511 : (Jvm.Cond.code ({ cls := "BronzeKingModel", name := "doorsIn", desc := "(I)I" } : Jvm.MethodName) prog_14_method_57_code (4 : Nat) (Option.some Jvm.ClassFile.FieldType.int)) ∈ lw_good := tg_7 71 rfl rfl
theorem g_1512 : (Jvm.Cond.methodLink "BronzeKingModel" (305 : Nat) ({ cls := "BronzeKingModel", name := "max", desc := "(II)I" } : Jvm.MethodName)) ∈ lw_good := tg_7 72 rfl rfl
theorem g_1513 : (Jvm.Cond.static ({ cls := "BronzeKingModel", name := "max", desc := "(II)I" } : Jvm.MethodName)) ∈ lw_good := tg_7 73 rfl rfl
theorem g_1514 : (Jvm.Cond.code ({ cls := "BronzeKingModel", name := "max", desc := "(II)I" } : Jvm.MethodName) prog_14_method_4_code (2 : Nat) (Option.some Jvm.ClassFile.FieldType.int)) ∈ lw_good := tg_7 74 rfl rfl
theorem g_1515 : (Jvm.Cond.methodLink "BronzeKingLaw" (49 : Nat) ({ cls := "BronzeKingModel", name := "tried", desc := "(II)I" } : Jvm.MethodName)) ∈ lw_good := tg_7 75 rfl rfl
theorem g_1516 : (Jvm.Cond.instanceMethod ({ cls := "BronzeKingModel", name := "tried", desc := "(II)I" } : Jvm.MethodName)) ∈ lw_good := tg_7 76 rfl rfl
theorem g_1517 : (Jvm.Cond.selects "BronzeKingModel" ({ cls := "BronzeKingModel", name := "tried", desc := "(II)I" } : Jvm.MethodName) ({ cls := "BronzeKingModel", name := "tried", desc := "(II)I" } : Jvm.MethodName)) ∈ lw_good := tg_7 77 rfl rfl
theorem g_1518 : (Jvm.Cond.code ({ cls := "BronzeKingModel", name := "tried", desc := "(II)I" } : Jvm.MethodName) prog_14_method_63_code (5 : Nat) (Option.some Jvm.ClassFile.FieldType.int)) ∈ lw_good := tg_7 78 rfl rfl
theorem g_1519 : (Jvm.Cond.methodLink "BronzeKingModel" (323 : Nat) ({ cls := "BronzeKingModel", name := "copies", desc := "([I[I)V" } : Jvm.MethodName)) ∈ lw_good := tg_7 79 rfl rfl
theorem g_1520 : (Jvm.Cond.static ({ cls := "BronzeKingModel", name := "copies", desc := "([I[I)V" } : Jvm.MethodName)) ∈ lw_good := tg_7 80 rfl rfl
theorem g_1521 : (Jvm.Cond.code ({ cls := "BronzeKingModel", name := "copies", desc := "([I[I)V" } : Jvm.MethodName) prog_14_method_8_code (3 : Nat) (Option.none : Option Jvm.ClassFile.FieldType)) ∈ lw_good := tg_7 81 rfl rfl
theorem g_1522 : (Jvm.Cond.methodLink "BronzeKingLaw" (54 : Nat) ({ cls := "BronzeKingModel", name := "placeIs", desc := "(III)I" } : Jvm.MethodName)) ∈ lw_good := tg_7 82 rfl rfl
theorem g_1523 : (Jvm.Cond.instanceMethod ({ cls := "BronzeKingModel", name := "placeIs", desc := "(III)I" } : Jvm.MethodName)) ∈ lw_good := tg_7 83 rfl rfl
theorem g_1524 : (Jvm.Cond.selects "BronzeKingModel" ({ cls := "BronzeKingModel", name := "placeIs", desc := "(III)I" } : Jvm.MethodName) ({ cls := "BronzeKingModel", name := "placeIs", desc := "(III)I" } : Jvm.MethodName)) ∈ lw_good := tg_7 84 rfl rfl
theorem g_1525 : (Jvm.Cond.code ({ cls := "BronzeKingModel", name := "placeIs", desc := "(III)I" } : Jvm.MethodName) prog_14_method_64_code (5 : Nat) (Option.some Jvm.ClassFile.FieldType.int)) ∈ lw_good := tg_7 85 rfl rfl
theorem g_1526 : (Jvm.Cond.methodLink "BronzeKingModel" (327 : Nat) ({ cls := "BronzeKingModel", name := "neighbours", desc := "(I)I" } : Jvm.MethodName)) ∈ lw_good := tg_7 86 rfl rfl
theorem g_1528 : (Jvm.Cond.instanceMethod ({ cls := "BronzeKingModel", name := "neighbours", desc := "(I)I" } : Jvm.MethodName)) ∈ lw_good := tg_7 88 rfl rfl
theorem g_1529 : (Jvm.Cond.code ({ cls := "BronzeKingModel", name := "neighbours", desc := "(I)I" } : Jvm.MethodName) prog_14_method_17_code (4 : Nat) (Option.some Jvm.ClassFile.FieldType.int)) ∈ lw_good := tg_7 89 rfl rfl
theorem g_1530 : (Jvm.Cond.methodLink "BronzeKingLaw" (58 : Nat) ({ cls := "BronzeKingModel", name := "likely", desc := "(II)I" } : Jvm.MethodName)) ∈ lw_good := tg_7 90 rfl rfl
theorem g_1531 : (Jvm.Cond.instanceMethod ({ cls := "BronzeKingModel", name := "likely", desc := "(II)I" } : Jvm.MethodName)) ∈ lw_good := tg_7 91 rfl rfl
theorem g_1532 : (Jvm.Cond.selects "BronzeKingModel" ({ cls := "BronzeKingModel", name := "likely", desc := "(II)I" } : Jvm.MethodName) ({ cls := "BronzeKingModel", name := "likely", desc := "(II)I" } : Jvm.MethodName)) ∈ lw_good := tg_7 92 rfl rfl
theorem g_1533 : (Jvm.Cond.code ({ cls := "BronzeKingModel", name := "likely", desc := "(II)I" } : Jvm.MethodName) prog_14_method_68_code (4 : Nat) (Option.some Jvm.ClassFile.FieldType.int)) ∈ lw_good := tg_7 93 rfl rfl
theorem g_1534 : (Jvm.Cond.methodLink "BronzeKingModel" (342 : Nat) ({ cls := "BronzeKingModel", name := "laysWeights", desc := "()I" } : Jvm.MethodName)) ∈ lw_good := tg_7 94 rfl rfl
theorem g_1536 : (Jvm.Cond.instanceMethod ({ cls := "BronzeKingModel", name := "laysWeights", desc := "()I" } : Jvm.MethodName)) ∈ lw_good := tg_7 96 rfl rfl
theorem g_1537 : (Jvm.Cond.code ({ cls := "BronzeKingModel", name := "laysWeights", desc := "()I" } : Jvm.MethodName) prog_14_method_66_code (3 : Nat) (Option.some Jvm.ClassFile.FieldType.int)) ∈ lw_good := tg_7 97 rfl rfl
theorem g_1538 : (Jvm.Cond.methodLink "BronzeKingModel" (330 : Nat) ({ cls := "BronzeKingModel", name := "has", desc := "(II)Z" } : Jvm.MethodName)) ∈ lw_good := tg_7 98 rfl rfl
theorem g_1539 : (Jvm.Cond.static ({ cls := "BronzeKingModel", name := "has", desc := "(II)Z" } : Jvm.MethodName)) ∈ lw_good := tg_7 99 rfl rfl
theorem g_1540 : (Jvm.Cond.code ({ cls := "BronzeKingModel", name := "has", desc := "(II)Z" } : Jvm.MethodName) prog_14_method_6_code (2 : Nat) (Option.some Jvm.ClassFile.FieldType.boolean)) ∈ lw_good := tg_7 100 rfl rfl
theorem g_1541 : (Jvm.Cond.methodLink "BronzeKingModel" (345 : Nat) ({ cls := "BronzeKingModel", name := "laysFraction", desc := "(II)V" } : Jvm.MethodName)) ∈ lw_good := tg_7 101 rfl rfl
theorem g_1543 : (Jvm.Cond.instanceMethod ({ cls := "BronzeKingModel", name := "laysFraction", desc := "(II)V" } : Jvm.MethodName)) ∈ lw_good := tg_7 103 rfl rfl
theorem g_1544 : (Jvm.Cond.code ({ cls := "BronzeKingModel", name := "laysFraction", desc := "(II)V" } : Jvm.MethodName) prog_14_method_67_code (4 : Nat) (Option.none : Option Jvm.ClassFile.FieldType)) ∈ lw_good := tg_7 104 rfl rfl
theorem g_1545 : (Jvm.Cond.methodLink "BronzeKingModel" (333 : Nat) ({ cls := "BronzeKingModel", name := "gcd", desc := "(II)I" } : Jvm.MethodName)) ∈ lw_good := tg_7 105 rfl rfl
theorem g_1546 : (Jvm.Cond.static ({ cls := "BronzeKingModel", name := "gcd", desc := "(II)I" } : Jvm.MethodName)) ∈ lw_good := tg_7 106 rfl rfl
theorem g_1547 : (Jvm.Cond.code ({ cls := "BronzeKingModel", name := "gcd", desc := "(II)I" } : Jvm.MethodName) prog_14_method_65_code (5 : Nat) (Option.some Jvm.ClassFile.FieldType.int)) ∈ lw_good := tg_7 107 rfl rfl
theorem g_1548 : (Jvm.Cond.methodLink "BronzeKingLaw" (62 : Nat) ({ cls := "BronzeKingModel", name := "watch", desc := "(II)I" } : Jvm.MethodName)) ∈ lw_good := tg_7 108 rfl rfl
theorem g_1549 : (Jvm.Cond.instanceMethod ({ cls := "BronzeKingModel", name := "watch", desc := "(II)I" } : Jvm.MethodName)) ∈ lw_good := tg_7 109 rfl rfl
theorem g_1550 : (Jvm.Cond.selects "BronzeKingModel" ({ cls := "BronzeKingModel", name := "watch", desc := "(II)I" } : Jvm.MethodName) ({ cls := "BronzeKingModel", name := "watch", desc := "(II)I" } : Jvm.MethodName)) ∈ lw_good := tg_7 110 rfl rfl
theorem g_1551 : (Jvm.Cond.code ({ cls := "BronzeKingModel", name := "watch", desc := "(II)I" } : Jvm.MethodName) prog_14_method_70_code (8 : Nat) (Option.some Jvm.ClassFile.FieldType.int)) ∈ lw_good := tg_7 111 rfl rfl
theorem g_1552 : (Jvm.Cond.methodLink "BronzeKingModel" (348 : Nat) ({ cls := "BronzeKingModel", name := "nextHour", desc := "(I)I" } : Jvm.MethodName)) ∈ lw_good := tg_7 112 rfl rfl
theorem g_1554 : (Jvm.Cond.instanceMethod ({ cls := "BronzeKingModel", name := "nextHour", desc := "(I)I" } : Jvm.MethodName)) ∈ lw_good := tg_7 114 rfl rfl
theorem g_1555 : (Jvm.Cond.code ({ cls := "BronzeKingModel", name := "nextHour", desc := "(I)I" } : Jvm.MethodName) prog_14_method_69_code (4 : Nat) (Option.some Jvm.ClassFile.FieldType.int)) ∈ lw_good := tg_7 115 rfl rfl
theorem g_1556 : (Jvm.Cond.methodLink "BronzeKingLaw" (66 : Nat) ({ cls := "BronzeKingModel", name := "sure", desc := "(I)I" } : Jvm.MethodName)) ∈ lw_good := tg_7 116 rfl rfl
theorem g_1557 : (Jvm.Cond.instanceMethod ({ cls := "BronzeKingModel", name := "sure", desc := "(I)I" } : Jvm.MethodName)) ∈ lw_good := tg_7 117 rfl rfl
theorem g_1558 : (Jvm.Cond.selects "BronzeKingModel" ({ cls := "BronzeKingModel", name := "sure", desc := "(I)I" } : Jvm.MethodName) ({ cls := "BronzeKingModel", name := "sure", desc := "(I)I" } : Jvm.MethodName)) ∈ lw_good := tg_7 118 rfl rfl
theorem g_1559 : (Jvm.Cond.code ({ cls := "BronzeKingModel", name := "sure", desc := "(I)I" } : Jvm.MethodName) prog_14_method_71_code (7 : Nat) (Option.some Jvm.ClassFile.FieldType.int)) ∈ lw_good := tg_7 119 rfl rfl
theorem g_1560 : (Jvm.Cond.methodLink "BronzeKingLaw" (70 : Nat) ({ cls := "BronzeKingModel", name := "walk", desc := "(I)I" } : Jvm.MethodName)) ∈ lw_good := tg_7 120 rfl rfl
theorem g_1561 : (Jvm.Cond.instanceMethod ({ cls := "BronzeKingModel", name := "walk", desc := "(I)I" } : Jvm.MethodName)) ∈ lw_good := tg_7 121 rfl rfl
theorem g_1562 : (Jvm.Cond.selects "BronzeKingModel" ({ cls := "BronzeKingModel", name := "walk", desc := "(I)I" } : Jvm.MethodName) ({ cls := "BronzeKingModel", name := "walk", desc := "(I)I" } : Jvm.MethodName)) ∈ lw_good := tg_7 122 rfl rfl
theorem g_1563 : (Jvm.Cond.code ({ cls := "BronzeKingModel", name := "walk", desc := "(I)I" } : Jvm.MethodName) prog_14_method_72_code (2 : Nat) (Option.some Jvm.ClassFile.FieldType.int)) ∈ lw_good := tg_7 123 rfl rfl
theorem g_1564 : (Jvm.Cond.methodLink "BronzeKingLaw" (75 : Nat) ({ cls := "BronzeKingModel", name := "worn", desc := "()I" } : Jvm.MethodName)) ∈ lw_good := tg_7 124 rfl rfl
theorem g_1565 : (Jvm.Cond.instanceMethod ({ cls := "BronzeKingModel", name := "worn", desc := "()I" } : Jvm.MethodName)) ∈ lw_good := tg_7 125 rfl rfl
theorem g_1566 : (Jvm.Cond.selects "BronzeKingModel" ({ cls := "BronzeKingModel", name := "worn", desc := "()I" } : Jvm.MethodName) ({ cls := "BronzeKingModel", name := "worn", desc := "()I" } : Jvm.MethodName)) ∈ lw_good := tg_7 126 rfl rfl
theorem g_1567 : (Jvm.Cond.code ({ cls := "BronzeKingModel", name := "worn", desc := "()I" } : Jvm.MethodName) prog_14_method_73_code (4 : Nat) (Option.some Jvm.ClassFile.FieldType.int)) ∈ lw_good := tg_7 127 rfl rfl
theorem g_1568 : (Jvm.Cond.methodLink "BronzeKingLaw" (79 : Nat) ({ cls := "BronzeKingModel", name := "far", desc := "(I)I" } : Jvm.MethodName)) ∈ lw_good := tg_7 128 rfl rfl
theorem g_1569 : (Jvm.Cond.instanceMethod ({ cls := "BronzeKingModel", name := "far", desc := "(I)I" } : Jvm.MethodName)) ∈ lw_good := tg_7 129 rfl rfl
theorem g_1570 : (Jvm.Cond.selects "BronzeKingModel" ({ cls := "BronzeKingModel", name := "far", desc := "(I)I" } : Jvm.MethodName) ({ cls := "BronzeKingModel", name := "far", desc := "(I)I" } : Jvm.MethodName)) ∈ lw_good := tg_7 130 rfl rfl
theorem g_1571 : (Jvm.Cond.code ({ cls := "BronzeKingModel", name := "far", desc := "(I)I" } : Jvm.MethodName) prog_14_method_74_code (4 : Nat) (Option.some Jvm.ClassFile.FieldType.int)) ∈ lw_good := tg_7 131 rfl rfl
theorem g_1572 : (Jvm.Cond.methodLink "BronzeKingLaw" (83 : Nat) ({ cls := "BronzeKingModel", name := "calls", desc := "(II)I" } : Jvm.MethodName)) ∈ lw_good := tg_7 132 rfl rfl
theorem g_1573 : (Jvm.Cond.instanceMethod ({ cls := "BronzeKingModel", name := "calls", desc := "(II)I" } : Jvm.MethodName)) ∈ lw_good := tg_7 133 rfl rfl
theorem g_1574 : (Jvm.Cond.selects "BronzeKingModel" ({ cls := "BronzeKingModel", name := "calls", desc := "(II)I" } : Jvm.MethodName) ({ cls := "BronzeKingModel", name := "calls", desc := "(II)I" } : Jvm.MethodName)) ∈ lw_good := tg_7 134 rfl rfl
theorem g_1575 : (Jvm.Cond.code ({ cls := "BronzeKingModel", name := "calls", desc := "(II)I" } : Jvm.MethodName) prog_14_method_81_code (3 : Nat) (Option.some Jvm.ClassFile.FieldType.int)) ∈ lw_good := tg_7 135 rfl rfl
theorem g_1576 : (Jvm.Cond.methodLink "BronzeKingModel" (374 : Nat) ({ cls := "BronzeKingModel", name := "laysCalls", desc := "(I)V" } : Jvm.MethodName)) ∈ lw_good := tg_7 136 rfl rfl
theorem g_1578 : (Jvm.Cond.instanceMethod ({ cls := "BronzeKingModel", name := "laysCalls", desc := "(I)V" } : Jvm.MethodName)) ∈ lw_good := tg_7 138 rfl rfl
theorem g_1579 : (Jvm.Cond.code ({ cls := "BronzeKingModel", name := "laysCalls", desc := "(I)V" } : Jvm.MethodName) prog_14_method_80_code (5 : Nat) (Option.none : Option Jvm.ClassFile.FieldType)) ∈ lw_good := tg_7 139 rfl rfl
theorem g_1580 : (Jvm.Cond.methodLink "BronzeKingModel" (364 : Nat) ({ cls := "BronzeKingModel", name := "laysBack", desc := "()V" } : Jvm.MethodName)) ∈ lw_good := tg_7 140 rfl rfl
theorem g_1582 : (Jvm.Cond.instanceMethod ({ cls := "BronzeKingModel", name := "laysBack", desc := "()V" } : Jvm.MethodName)) ∈ lw_good := tg_7 142 rfl rfl
theorem g_1583 : (Jvm.Cond.code ({ cls := "BronzeKingModel", name := "laysBack", desc := "()V" } : Jvm.MethodName) prog_14_method_77_code (5 : Nat) (Option.none : Option Jvm.ClassFile.FieldType)) ∈ lw_good := tg_7 143 rfl rfl
theorem g_1584 : (Jvm.Cond.methodLink "BronzeKingModel" (352 : Nat) ({ cls := "BronzeKingModel", name := "squareWay", desc := "(I)I" } : Jvm.MethodName)) ∈ lw_good := tg_7 144 rfl rfl
theorem g_1586 : (Jvm.Cond.instanceMethod ({ cls := "BronzeKingModel", name := "squareWay", desc := "(I)I" } : Jvm.MethodName)) ∈ lw_good := tg_7 146 rfl rfl
theorem g_1587 : (Jvm.Cond.code ({ cls := "BronzeKingModel", name := "squareWay", desc := "(I)I" } : Jvm.MethodName) prog_14_method_76_code (3 : Nat) (Option.some Jvm.ClassFile.FieldType.int)) ∈ lw_good := tg_7 147 rfl rfl
theorem g_1588 : (Jvm.Cond.constant "BronzeKingModel" (351 : Nat) (1000000 : Int32)) ∈ lw_good := tg_7 148 rfl rfl
theorem g_1589 : (Jvm.Cond.methodLink "BronzeKingModel" (355 : Nat) ({ cls := "BronzeKingModel", name := "doorWay", desc := "(II)I" } : Jvm.MethodName)) ∈ lw_good := tg_7 149 rfl rfl
theorem g_1591 : (Jvm.Cond.instanceMethod ({ cls := "BronzeKingModel", name := "doorWay", desc := "(II)I" } : Jvm.MethodName)) ∈ lw_good := tg_7 151 rfl rfl
theorem g_1592 : (Jvm.Cond.code ({ cls := "BronzeKingModel", name := "doorWay", desc := "(II)I" } : Jvm.MethodName) prog_14_method_75_code (4 : Nat) (Option.some Jvm.ClassFile.FieldType.int)) ∈ lw_good := tg_7 152 rfl rfl
theorem g_1593 : (Jvm.Cond.methodLink "BronzeKingModel" (367 : Nat) ({ cls := "BronzeKingModel", name := "roundBy", desc := "(I)I" } : Jvm.MethodName)) ∈ lw_good := tg_7 153 rfl rfl
theorem g_1595 : (Jvm.Cond.instanceMethod ({ cls := "BronzeKingModel", name := "roundBy", desc := "(I)I" } : Jvm.MethodName)) ∈ lw_good := tg_7 155 rfl rfl
theorem g_1596 : (Jvm.Cond.code ({ cls := "BronzeKingModel", name := "roundBy", desc := "(I)I" } : Jvm.MethodName) prog_14_method_78_code (4 : Nat) (Option.some Jvm.ClassFile.FieldType.int)) ∈ lw_good := tg_7 156 rfl rfl
theorem g_1597 : (Jvm.Cond.methodLink "BronzeKingModel" (370 : Nat) ({ cls := "BronzeKingModel", name := "mayBeRow", desc := "(IZ)V" } : Jvm.MethodName)) ∈ lw_good := tg_7 157 rfl rfl
theorem g_1599 : (Jvm.Cond.instanceMethod ({ cls := "BronzeKingModel", name := "mayBeRow", desc := "(IZ)V" } : Jvm.MethodName)) ∈ lw_good := tg_7 159 rfl rfl
theorem g_1600 : (Jvm.Cond.code ({ cls := "BronzeKingModel", name := "mayBeRow", desc := "(IZ)V" } : Jvm.MethodName) prog_14_method_79_code (9 : Nat) (Option.none : Option Jvm.ClassFile.FieldType)) ∈ lw_good := tg_7 160 rfl rfl
theorem g_1601 : (Jvm.Cond.methodLink "BronzeKingLaw" (87 : Nat) ({ cls := "BronzeKingModel", name := "old", desc := "(II)I" } : Jvm.MethodName)) ∈ lw_good := tg_7 161 rfl rfl
theorem g_1602 : (Jvm.Cond.instanceMethod ({ cls := "BronzeKingModel", name := "old", desc := "(II)I" } : Jvm.MethodName)) ∈ lw_good := tg_7 162 rfl rfl
theorem g_1603 : (Jvm.Cond.selects "BronzeKingModel" ({ cls := "BronzeKingModel", name := "old", desc := "(II)I" } : Jvm.MethodName) ({ cls := "BronzeKingModel", name := "old", desc := "(II)I" } : Jvm.MethodName)) ∈ lw_good := tg_7 163 rfl rfl
theorem g_1604 : (Jvm.Cond.code ({ cls := "BronzeKingModel", name := "old", desc := "(II)I" } : Jvm.MethodName) prog_14_method_83_code (4 : Nat) (Option.some Jvm.ClassFile.FieldType.int)) ∈ lw_good := tg_7 164 rfl rfl
theorem g_1605 : (Jvm.Cond.methodLink "BronzeKingModel" (377 : Nat) ({ cls := "BronzeKingModel", name := "laysCosts", desc := "(II)V" } : Jvm.MethodName)) ∈ lw_good := tg_7 165 rfl rfl
theorem g_1607 : (Jvm.Cond.instanceMethod ({ cls := "BronzeKingModel", name := "laysCosts", desc := "(II)V" } : Jvm.MethodName)) ∈ lw_good := tg_7 167 rfl rfl
theorem g_1608 : (Jvm.Cond.code ({ cls := "BronzeKingModel", name := "laysCosts", desc := "(II)V" } : Jvm.MethodName) prog_14_method_82_code (8 : Nat) (Option.none : Option Jvm.ClassFile.FieldType)) ∈ lw_good := tg_7 168 rfl rfl
theorem g_1609 : (Jvm.Cond.methodLink "BronzeKingLaw" (91 : Nat) ({ cls := "BronzeKingModel", name := "barred", desc := "(III)I" } : Jvm.MethodName)) ∈ lw_good := tg_7 169 rfl rfl
theorem g_1610 : (Jvm.Cond.instanceMethod ({ cls := "BronzeKingModel", name := "barred", desc := "(III)I" } : Jvm.MethodName)) ∈ lw_good := tg_7 170 rfl rfl
theorem g_1611 : (Jvm.Cond.selects "BronzeKingModel" ({ cls := "BronzeKingModel", name := "barred", desc := "(III)I" } : Jvm.MethodName) ({ cls := "BronzeKingModel", name := "barred", desc := "(III)I" } : Jvm.MethodName)) ∈ lw_good := tg_7 171 rfl rfl
theorem g_1612 : (Jvm.Cond.code ({ cls := "BronzeKingModel", name := "barred", desc := "(III)I" } : Jvm.MethodName) prog_14_method_84_code (5 : Nat) (Option.some Jvm.ClassFile.FieldType.int)) ∈ lw_good := tg_7 172 rfl rfl
theorem g_1613 : (Jvm.Cond.methodLink "BronzeKingLaw" (95 : Nat) ({ cls := "BronzeKingModel", name := "chase", desc := "(II)I" } : Jvm.MethodName)) ∈ lw_good := tg_7 173 rfl rfl
theorem g_1614 : (Jvm.Cond.instanceMethod ({ cls := "BronzeKingModel", name := "chase", desc := "(II)I" } : Jvm.MethodName)) ∈ lw_good := tg_7 174 rfl rfl
theorem g_1615 : (Jvm.Cond.selects "BronzeKingModel" ({ cls := "BronzeKingModel", name := "chase", desc := "(II)I" } : Jvm.MethodName) ({ cls := "BronzeKingModel", name := "chase", desc := "(II)I" } : Jvm.MethodName)) ∈ lw_good := tg_7 175 rfl rfl
theorem g_1616 : (Jvm.Cond.code ({ cls := "BronzeKingModel", name := "chase", desc := "(II)I" } : Jvm.MethodName) prog_14_method_88_code (5 : Nat) (Option.some Jvm.ClassFile.FieldType.int)) ∈ lw_good := tg_7 176 rfl rfl
theorem g_1617 : (Jvm.Cond.methodLink "BronzeKingModel" (386 : Nat) ({ cls := "BronzeKingModel", name := "winsBy", desc := "(II)Z" } : Jvm.MethodName)) ∈ lw_good := tg_7 177 rfl rfl
theorem g_1619 : (Jvm.Cond.instanceMethod ({ cls := "BronzeKingModel", name := "winsBy", desc := "(II)Z" } : Jvm.MethodName)) ∈ lw_good := tg_7 179 rfl rfl
theorem g_1620 : (Jvm.Cond.code ({ cls := "BronzeKingModel", name := "winsBy", desc := "(II)Z" } : Jvm.MethodName) prog_14_method_87_code (5 : Nat) (Option.some Jvm.ClassFile.FieldType.boolean)) ∈ lw_good := tg_7 180 rfl rfl
theorem g_1621 : (Jvm.Cond.methodLink "BronzeKingModel" (380 : Nat) ({ cls := "BronzeKingModel", name := "fourOrStay", desc := "(II)I" } : Jvm.MethodName)) ∈ lw_good := tg_7 181 rfl rfl
theorem g_1623 : (Jvm.Cond.instanceMethod ({ cls := "BronzeKingModel", name := "fourOrStay", desc := "(II)I" } : Jvm.MethodName)) ∈ lw_good := tg_7 183 rfl rfl
theorem g_1624 : (Jvm.Cond.code ({ cls := "BronzeKingModel", name := "fourOrStay", desc := "(II)I" } : Jvm.MethodName) prog_14_method_85_code (3 : Nat) (Option.some Jvm.ClassFile.FieldType.int)) ∈ lw_good := tg_7 184 rfl rfl
theorem g_1625 : (Jvm.Cond.methodLink "BronzeKingModel" (383 : Nat) ({ cls := "BronzeKingModel", name := "isSure", desc := "(II)Z" } : Jvm.MethodName)) ∈ lw_good := tg_7 185 rfl rfl
theorem g_1627 : (Jvm.Cond.instanceMethod ({ cls := "BronzeKingModel", name := "isSure", desc := "(II)Z" } : Jvm.MethodName)) ∈ lw_good := tg_7 187 rfl rfl
theorem g_1628 : (Jvm.Cond.code ({ cls := "BronzeKingModel", name := "isSure", desc := "(II)Z" } : Jvm.MethodName) prog_14_method_86_code (5 : Nat) (Option.some Jvm.ClassFile.FieldType.boolean)) ∈ lw_good := tg_7 188 rfl rfl
theorem g_1629 : (Jvm.Cond.methodLink "BronzeKingLaw" (99 : Nat) ({ cls := "BronzeKingModel", name := "lovers", desc := "(II)I" } : Jvm.MethodName)) ∈ lw_good := tg_7 189 rfl rfl
theorem g_1630 : (Jvm.Cond.instanceMethod ({ cls := "BronzeKingModel", name := "lovers", desc := "(II)I" } : Jvm.MethodName)) ∈ lw_good := tg_7 190 rfl rfl
theorem g_1631 : (Jvm.Cond.selects "BronzeKingModel" ({ cls := "BronzeKingModel", name := "lovers", desc := "(II)I" } : Jvm.MethodName) ({ cls := "BronzeKingModel", name := "lovers", desc := "(II)I" } : Jvm.MethodName)) ∈ lw_good := tg_7 191 rfl rfl
theorem g_1632 : (Jvm.Cond.code ({ cls := "BronzeKingModel", name := "lovers", desc := "(II)I" } : Jvm.MethodName) prog_14_method_89_code (10 : Nat) (Option.some Jvm.ClassFile.FieldType.int)) ∈ lw_good := tg_7 192 rfl rfl
theorem g_1633 : (Jvm.Cond.methodLink "BronzeKingModel" (389 : Nat) ({ cls := "BronzeKingModel", name := "octet", desc := "(I)I" } : Jvm.MethodName)) ∈ lw_good := tg_7 193 rfl rfl
theorem g_1635 : (Jvm.Cond.instanceMethod ({ cls := "BronzeKingModel", name := "octet", desc := "(I)I" } : Jvm.MethodName)) ∈ lw_good := tg_7 195 rfl rfl
theorem g_1636 : (Jvm.Cond.code ({ cls := "BronzeKingModel", name := "octet", desc := "(I)I" } : Jvm.MethodName) prog_14_method_20_code (2 : Nat) (Option.some Jvm.ClassFile.FieldType.int)) ∈ lw_good := tg_7 196 rfl rfl
theorem g_1637 : (Jvm.Cond.methodLink "BronzeKingLaw" (103 : Nat) ({ cls := "BronzeKingModel", name := "benches", desc := "(II)I" } : Jvm.MethodName)) ∈ lw_good := tg_7 197 rfl rfl
theorem g_1638 : (Jvm.Cond.instanceMethod ({ cls := "BronzeKingModel", name := "benches", desc := "(II)I" } : Jvm.MethodName)) ∈ lw_good := tg_7 198 rfl rfl
theorem g_1639 : (Jvm.Cond.selects "BronzeKingModel" ({ cls := "BronzeKingModel", name := "benches", desc := "(II)I" } : Jvm.MethodName) ({ cls := "BronzeKingModel", name := "benches", desc := "(II)I" } : Jvm.MethodName)) ∈ lw_good := tg_7 199 rfl rfl
theorem g_1640 : (Jvm.Cond.code ({ cls := "BronzeKingModel", name := "benches", desc := "(II)I" } : Jvm.MethodName) prog_14_method_93_code (9 : Nat) (Option.some Jvm.ClassFile.FieldType.int)) ∈ lw_good := tg_7 200 rfl rfl
theorem g_1641 : (Jvm.Cond.methodLink "BronzeKingModel" (392 : Nat) ({ cls := "BronzeKingModel", name := "worn", desc := "()I" } : Jvm.MethodName)) ∈ lw_good := tg_7 201 rfl rfl
theorem g_1642 : (Jvm.Cond.methodLink "BronzeKingModel" (395 : Nat) ({ cls := "BronzeKingModel", name := "openPlaces", desc := "()I" } : Jvm.MethodName)) ∈ lw_good := tg_7 202 rfl rfl
theorem g_1644 : (Jvm.Cond.instanceMethod ({ cls := "BronzeKingModel", name := "openPlaces", desc := "()I" } : Jvm.MethodName)) ∈ lw_good := tg_7 204 rfl rfl
theorem g_1645 : (Jvm.Cond.code ({ cls := "BronzeKingModel", name := "openPlaces", desc := "()I" } : Jvm.MethodName) prog_14_method_92_code (3 : Nat) (Option.some Jvm.ClassFile.FieldType.int)) ∈ lw_good := tg_7 205 rfl rfl
theorem g_1646 : (Jvm.Cond.methodLink "BronzeKingModel" (398 : Nat) ({ cls := "BronzeKingModel", name := "laysNear", desc := "()V" } : Jvm.MethodName)) ∈ lw_good := tg_7 206 rfl rfl
theorem g_1648 : (Jvm.Cond.instanceMethod ({ cls := "BronzeKingModel", name := "laysNear", desc := "()V" } : Jvm.MethodName)) ∈ lw_good := tg_7 208 rfl rfl
theorem g_1649 : (Jvm.Cond.code ({ cls := "BronzeKingModel", name := "laysNear", desc := "()V" } : Jvm.MethodName) prog_14_method_90_code (3 : Nat) (Option.none : Option Jvm.ClassFile.FieldType)) ∈ lw_good := tg_7 209 rfl rfl
theorem g_1650 : (Jvm.Cond.methodLink "BronzeKingModel" (401 : Nat) ({ cls := "BronzeKingModel", name := "bitsOf", desc := "(J)I" } : Jvm.MethodName)) ∈ lw_good := tg_7 210 rfl rfl
theorem g_1651 : (Jvm.Cond.static ({ cls := "BronzeKingModel", name := "bitsOf", desc := "(J)I" } : Jvm.MethodName)) ∈ lw_good := tg_7 211 rfl rfl
theorem g_1652 : (Jvm.Cond.code ({ cls := "BronzeKingModel", name := "bitsOf", desc := "(J)I" } : Jvm.MethodName) prog_14_method_91_code (4 : Nat) (Option.some Jvm.ClassFile.FieldType.int)) ∈ lw_good := tg_7 212 rfl rfl
theorem g_1653 : (Jvm.Cond.methodLink "BronzeKingLaw" (107 : Nat) ({ cls := "BronzeKingModel", name := "pigeons", desc := "(I)I" } : Jvm.MethodName)) ∈ lw_good := tg_7 213 rfl rfl
theorem g_1654 : (Jvm.Cond.instanceMethod ({ cls := "BronzeKingModel", name := "pigeons", desc := "(I)I" } : Jvm.MethodName)) ∈ lw_good := tg_7 214 rfl rfl
theorem g_1655 : (Jvm.Cond.selects "BronzeKingModel" ({ cls := "BronzeKingModel", name := "pigeons", desc := "(I)I" } : Jvm.MethodName) ({ cls := "BronzeKingModel", name := "pigeons", desc := "(I)I" } : Jvm.MethodName)) ∈ lw_good := tg_7 215 rfl rfl
theorem g_1656 : (Jvm.Cond.code ({ cls := "BronzeKingModel", name := "pigeons", desc := "(I)I" } : Jvm.MethodName) prog_14_method_94_code (6 : Nat) (Option.some Jvm.ClassFile.FieldType.int)) ∈ lw_good := tg_7 216 rfl rfl
theorem g_1657 : (Jvm.Cond.methodLink "BronzeKingModel" (405 : Nat) ({ cls := "BronzeKingModel", name := "size", desc := "(I)I" } : Jvm.MethodName)) ∈ lw_good := tg_7 217 rfl rfl
theorem g_1658 : (Jvm.Cond.static ({ cls := "BronzeKingModel", name := "size", desc := "(I)I" } : Jvm.MethodName)) ∈ lw_good := tg_7 218 rfl rfl
theorem g_1659 : (Jvm.Cond.code ({ cls := "BronzeKingModel", name := "size", desc := "(I)I" } : Jvm.MethodName) prog_14_method_5_code (1 : Nat) (Option.some Jvm.ClassFile.FieldType.int)) ∈ lw_good := tg_7 219 rfl rfl
theorem g_1660 : (Jvm.Cond.methodLink "BronzeKingLaw" (111 : Nat) ({ cls := "BronzeKingModel", name := "streets", desc := "(I)I" } : Jvm.MethodName)) ∈ lw_good := tg_7 220 rfl rfl
theorem g_1661 : (Jvm.Cond.instanceMethod ({ cls := "BronzeKingModel", name := "streets", desc := "(I)I" } : Jvm.MethodName)) ∈ lw_good := tg_7 221 rfl rfl
theorem g_1662 : (Jvm.Cond.selects "BronzeKingModel" ({ cls := "BronzeKingModel", name := "streets", desc := "(I)I" } : Jvm.MethodName) ({ cls := "BronzeKingModel", name := "streets", desc := "(I)I" } : Jvm.MethodName)) ∈ lw_good := tg_7 222 rfl rfl
theorem g_1663 : (Jvm.Cond.code ({ cls := "BronzeKingModel", name := "streets", desc := "(I)I" } : Jvm.MethodName) prog_14_method_100_code (6 : Nat) (Option.some Jvm.ClassFile.FieldType.int)) ∈ lw_good := tg_7 223 rfl rfl
theorem g_1664 : (Jvm.Cond.methodLink "BronzeKingModel" (408 : Nat) ({ cls := "BronzeKingModel", name := "cameTo", desc := "(I)I" } : Jvm.MethodName)) ∈ lw_good := tg_7 224 rfl rfl
theorem g_1666 : (Jvm.Cond.instanceMethod ({ cls := "BronzeKingModel", name := "cameTo", desc := "(I)I" } : Jvm.MethodName)) ∈ lw_good := tg_7 226 rfl rfl
theorem g_1667 : (Jvm.Cond.code ({ cls := "BronzeKingModel", name := "cameTo", desc := "(I)I" } : Jvm.MethodName) prog_14_method_98_code (6 : Nat) (Option.some Jvm.ClassFile.FieldType.int)) ∈ lw_good := tg_7 227 rfl rfl
theorem g_1668 : (Jvm.Cond.methodLink "BronzeKingModel" (411 : Nat) ({ cls := "BronzeKingModel", name := "islands", desc := "()I" } : Jvm.MethodName)) ∈ lw_good := tg_7 228 rfl rfl
theorem g_1670 : (Jvm.Cond.instanceMethod ({ cls := "BronzeKingModel", name := "islands", desc := "()I" } : Jvm.MethodName)) ∈ lw_good := tg_7 230 rfl rfl
theorem g_1671 : (Jvm.Cond.code ({ cls := "BronzeKingModel", name := "islands", desc := "()I" } : Jvm.MethodName) prog_14_method_95_code (5 : Nat) (Option.some Jvm.ClassFile.FieldType.int)) ∈ lw_good := tg_7 231 rfl rfl
theorem g_1672 : (Jvm.Cond.methodLink "BronzeKingModel" (414 : Nat) ({ cls := "BronzeKingModel", name := "withNeighbours", desc := "(II)I" } : Jvm.MethodName)) ∈ lw_good := tg_7 232 rfl rfl
theorem g_1674 : (Jvm.Cond.instanceMethod ({ cls := "BronzeKingModel", name := "withNeighbours", desc := "(II)I" } : Jvm.MethodName)) ∈ lw_good := tg_7 234 rfl rfl
theorem g_1675 : (Jvm.Cond.code ({ cls := "BronzeKingModel", name := "withNeighbours", desc := "(II)I" } : Jvm.MethodName) prog_14_method_96_code (5 : Nat) (Option.some Jvm.ClassFile.FieldType.int)) ∈ lw_good := tg_7 235 rfl rfl
theorem g_1676 : (Jvm.Cond.methodLink "BronzeKingModel" (417 : Nat) ({ cls := "BronzeKingModel", name := "twos", desc := "()I" } : Jvm.MethodName)) ∈ lw_good := tg_7 236 rfl rfl
theorem g_1678 : (Jvm.Cond.instanceMethod ({ cls := "BronzeKingModel", name := "twos", desc := "()I" } : Jvm.MethodName)) ∈ lw_good := tg_7 238 rfl rfl
theorem g_1679 : (Jvm.Cond.code ({ cls := "BronzeKingModel", name := "twos", desc := "()I" } : Jvm.MethodName) prog_14_method_97_code (3 : Nat) (Option.some Jvm.ClassFile.FieldType.int)) ∈ lw_good := tg_7 239 rfl rfl
theorem g_1680 : (Jvm.Cond.methodLink "BronzeKingModel" (420 : Nat) ({ cls := "BronzeKingModel", name := "isCut", desc := "(II)Z" } : Jvm.MethodName)) ∈ lw_good := tg_8 0 rfl rfl
theorem g_1682 : (Jvm.Cond.instanceMethod ({ cls := "BronzeKingModel", name := "isCut", desc := "(II)Z" } : Jvm.MethodName)) ∈ lw_good := tg_8 2 rfl rfl
theorem g_1683 : (Jvm.Cond.code ({ cls := "BronzeKingModel", name := "isCut", desc := "(II)Z" } : Jvm.MethodName) prog_14_method_99_code (3 : Nat) (Option.some Jvm.ClassFile.FieldType.boolean)) ∈ lw_good := tg_8 3 rfl rfl
theorem g_1684 : (Jvm.Cond.methodLink "BronzeKingLaw" (116 : Nat) ({ cls := "BronzeKingModel", name := "seed", desc := "(I)Z" } : Jvm.MethodName)) ∈ lw_good := tg_8 4 rfl rfl
theorem g_1685 : (Jvm.Cond.instanceMethod ({ cls := "BronzeKingModel", name := "seed", desc := "(I)Z" } : Jvm.MethodName)) ∈ lw_good := tg_8 5 rfl rfl
theorem g_1686 : (Jvm.Cond.selects "BronzeKingModel" ({ cls := "BronzeKingModel", name := "seed", desc := "(I)Z" } : Jvm.MethodName) ({ cls := "BronzeKingModel", name := "seed", desc := "(I)Z" } : Jvm.MethodName)) ∈ lw_good := tg_8 6 rfl rfl
theorem g_1687 : (Jvm.Cond.code ({ cls := "BronzeKingModel", name := "seed", desc := "(I)Z" } : Jvm.MethodName) prog_14_method_101_code (2 : Nat) (Option.some Jvm.ClassFile.FieldType.boolean)) ∈ lw_good := tg_8 7 rfl rfl
theorem g_1688 : (Jvm.Cond.constant "BronzeKingModel" (423 : Nat) (65535 : Int32)) ∈ lw_good := tg_8 8 rfl rfl
theorem g_1689 : (Jvm.Cond.methodLink "BronzeKingLaw" (120 : Nat) ({ cls := "BronzeKingModel", name := "keep", desc := "()I" } : Jvm.MethodName)) ∈ lw_good := tg_8 9 rfl rfl
theorem g_1690 : (Jvm.Cond.instanceMethod ({ cls := "BronzeKingModel", name := "keep", desc := "()I" } : Jvm.MethodName)) ∈ lw_good := tg_8 10 rfl rfl
theorem g_1691 : (Jvm.Cond.selects "BronzeKingModel" ({ cls := "BronzeKingModel", name := "keep", desc := "()I" } : Jvm.MethodName) ({ cls := "BronzeKingModel", name := "keep", desc := "()I" } : Jvm.MethodName)) ∈ lw_good := tg_8 11 rfl rfl
theorem g_1692 : (Jvm.Cond.code ({ cls := "BronzeKingModel", name := "keep", desc := "()I" } : Jvm.MethodName) prog_14_method_102_code (1 : Nat) (Option.some Jvm.ClassFile.FieldType.int)) ∈ lw_good := tg_8 12 rfl rfl
theorem g_1693 : (Jvm.Cond.methodLink "BronzeKingLaw" (125 : Nat) ({ cls := "BronzeKingModel", name := "undo", desc := "()Z" } : Jvm.MethodName)) ∈ lw_good := tg_8 13 rfl rfl
theorem g_1694 : (Jvm.Cond.instanceMethod ({ cls := "BronzeKingModel", name := "undo", desc := "()Z" } : Jvm.MethodName)) ∈ lw_good := tg_8 14 rfl rfl
theorem g_1695 : (Jvm.Cond.selects "BronzeKingModel" ({ cls := "BronzeKingModel", name := "undo", desc := "()Z" } : Jvm.MethodName) ({ cls := "BronzeKingModel", name := "undo", desc := "()Z" } : Jvm.MethodName)) ∈ lw_good := tg_8 15 rfl rfl
theorem g_1696 : (Jvm.Cond.code ({ cls := "BronzeKingModel", name := "undo", desc := "()Z" } : Jvm.MethodName) prog_14_method_103_code (1 : Nat) (Option.some Jvm.ClassFile.FieldType.boolean)) ∈ lw_good := tg_8 16 rfl rfl
theorem g_1697 : (Jvm.Cond.methodLink "BronzeKingLaw" (129 : Nat) ({ cls := "BronzeKingModel", name := "check", desc := "(II)I" } : Jvm.MethodName)) ∈ lw_good := tg_8 17 rfl rfl
theorem g_1698 : (Jvm.Cond.instanceMethod ({ cls := "BronzeKingModel", name := "check", desc := "(II)I" } : Jvm.MethodName)) ∈ lw_good := tg_8 18 rfl rfl
theorem g_1699 : (Jvm.Cond.selects "BronzeKingModel" ({ cls := "BronzeKingModel", name := "check", desc := "(II)I" } : Jvm.MethodName) ({ cls := "BronzeKingModel", name := "check", desc := "(II)I" } : Jvm.MethodName)) ∈ lw_good := tg_8 19 rfl rfl
theorem g_1700 : (Jvm.Cond.code ({ cls := "BronzeKingModel", name := "check", desc := "(II)I" } : Jvm.MethodName) prog_14_method_104_code (4 : Nat) (Option.some Jvm.ClassFile.FieldType.int)) ∈ lw_good := tg_8 20 rfl rfl
theorem g_1701 : (Jvm.Cond.methodLink "BronzeKingLaw" (133 : Nat) ({ cls := "BronzeKingModel", name := "count", desc := "(I)I" } : Jvm.MethodName)) ∈ lw_good := tg_8 21 rfl rfl
theorem g_1702 : (Jvm.Cond.instanceMethod ({ cls := "BronzeKingModel", name := "count", desc := "(I)I" } : Jvm.MethodName)) ∈ lw_good := tg_8 22 rfl rfl
theorem g_1703 : (Jvm.Cond.selects "BronzeKingModel" ({ cls := "BronzeKingModel", name := "count", desc := "(I)I" } : Jvm.MethodName) ({ cls := "BronzeKingModel", name := "count", desc := "(I)I" } : Jvm.MethodName)) ∈ lw_good := tg_8 23 rfl rfl
theorem g_1704 : (Jvm.Cond.code ({ cls := "BronzeKingModel", name := "count", desc := "(I)I" } : Jvm.MethodName) prog_14_method_105_code (4 : Nat) (Option.some Jvm.ClassFile.FieldType.int)) ∈ lw_good := tg_8 24 rfl rfl
theorem g_1705 : (Jvm.Cond.fieldLink "java/lang/String" (15 : Nat) "java/lang/String" "coder" "B") ∈ lw_good := tg_8 25 rfl rfl
theorem g_1706 : (Jvm.Cond.fieldLink "java/lang/String" (9 : Nat) "java/lang/String" "value" "[B") ∈ lw_good := tg_8 26 rfl rfl
