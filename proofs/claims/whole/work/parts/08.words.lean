/-! ===== the words that all contracts speak of: the good ones of the tables; each by its place ===== -/
def wsA : List Cond := lw_tbl.filter goodWord
theorem wsA_in : ∀ w ∈ wsA, w ∈ lw_tbl := fun _ h => (List.mem_filter.mp h).1
theorem wsA_good : GoodIn wsA wsA := fun w h => ⟨h, good_of_word (List.mem_filter.mp h).2⟩
theorem wt_in {w : Cond} (h : w ∈ tables_1) : w ∈ lw_tbl := List.mem_append_right _ h
theorem wt_1 {w : Cond} (h : w ∈ tables_1_1) : w ∈ lw_tbl := wt_in (List.mem_append_left _ h)
theorem wt_2 {w : Cond} (h : w ∈ tables_1_2) : w ∈ lw_tbl := wt_in (List.mem_append_right _ (List.mem_append_left _ h))
theorem wt_3 {w : Cond} (h : w ∈ tables_1_3) : w ∈ lw_tbl := wt_in (List.mem_append_right _ (List.mem_append_right _ (List.mem_append_left _ h)))
theorem wt_4 {w : Cond} (h : w ∈ tables_1_4) : w ∈ lw_tbl := wt_in (List.mem_append_right _ (List.mem_append_right _ (List.mem_append_right _ (List.mem_append_left _ h))))
theorem wt_5 {w : Cond} (h : w ∈ tables_1_5) : w ∈ lw_tbl := wt_in (List.mem_append_right _ (List.mem_append_right _ (List.mem_append_right _ (List.mem_append_right _ h))))
theorem wpv_1 {y : MethodName × Nat} (h : y ∈ lw_privs_1) : Cond.selects y.1.cls y.1 y.1 ∈ lw_tbl := List.mem_append_left _ (List.mem_map.mpr ⟨y, List.mem_append_left _ h, rfl⟩)
theorem wpv_2 {y : MethodName × Nat} (h : y ∈ lw_privs_2) : Cond.selects y.1.cls y.1 y.1 ∈ lw_tbl := List.mem_append_left _ (List.mem_map.mpr ⟨y, List.mem_append_right _ (List.mem_append_left _ h), rfl⟩)
theorem wpv_3 {y : MethodName × Nat} (h : y ∈ lw_privs_3) : Cond.selects y.1.cls y.1 y.1 ∈ lw_tbl := List.mem_append_left _ (List.mem_map.mpr ⟨y, List.mem_append_right _ (List.mem_append_right _ h), rfl⟩)
theorem wq1_0 : Jvm.Cond.initialized "NoticeBoxesLaw" ∈ wsA := List.mem_filter.mpr ⟨wt_1 (List.mem_of_getElem? (i := 0) rfl), rfl⟩
theorem wq1_1 : Jvm.Cond.initialized "NoticeBoxes" ∈ wsA := List.mem_filter.mpr ⟨wt_1 (List.mem_of_getElem? (i := 1) rfl), rfl⟩
theorem wq1_2 : Jvm.Cond.initialized "NoticeBoxes$State" ∈ wsA := List.mem_filter.mpr ⟨wt_1 (List.mem_of_getElem? (i := 2) rfl), rfl⟩
theorem wq1_3 : Jvm.Cond.initialized "NoticeBoxes$Client" ∈ wsA := List.mem_filter.mpr ⟨wt_1 (List.mem_of_getElem? (i := 3) rfl), rfl⟩
theorem wq1_4 : Jvm.Cond.initialized "NoticeBoxes$Tellings" ∈ wsA := List.mem_filter.mpr ⟨wt_1 (List.mem_of_getElem? (i := 4) rfl), rfl⟩
theorem wq1_5 : Jvm.Cond.initialized "NoticeBoxes$BoxList" ∈ wsA := List.mem_filter.mpr ⟨wt_1 (List.mem_of_getElem? (i := 5) rfl), rfl⟩
theorem wq1_6 : Jvm.Cond.initialized "NoticeBoxes$Journey" ∈ wsA := List.mem_filter.mpr ⟨wt_1 (List.mem_of_getElem? (i := 6) rfl), rfl⟩
theorem wq1_7 : Jvm.Cond.initialized "NoticeBoxes$Past" ∈ wsA := List.mem_filter.mpr ⟨wt_1 (List.mem_of_getElem? (i := 7) rfl), rfl⟩
theorem wq1_8 : Jvm.Cond.initialized "NoticeBoxes$Book" ∈ wsA := List.mem_filter.mpr ⟨wt_1 (List.mem_of_getElem? (i := 8) rfl), rfl⟩
theorem wq1_9 : Jvm.Cond.initialized "NoticeBoxes$Draws" ∈ wsA := List.mem_filter.mpr ⟨wt_1 (List.mem_of_getElem? (i := 9) rfl), rfl⟩
theorem wq1_10 : Jvm.Cond.initialized "NoticeBoxes$Image" ∈ wsA := List.mem_filter.mpr ⟨wt_1 (List.mem_of_getElem? (i := 10) rfl), rfl⟩
theorem wq1_11 : Jvm.Cond.initialized "NoticeBoxesModel" ∈ wsA := List.mem_filter.mpr ⟨wt_1 (List.mem_of_getElem? (i := 11) rfl), rfl⟩
theorem wq1_12 : Jvm.Cond.initialized "NoticeBoxes$Box" ∈ wsA := List.mem_filter.mpr ⟨wt_1 (List.mem_of_getElem? (i := 12) rfl), rfl⟩
theorem wq1_13 : Jvm.Cond.initialized "java/lang/Math" ∈ wsA := List.mem_filter.mpr ⟨wt_1 (List.mem_of_getElem? (i := 13) rfl), rfl⟩
theorem wq1_14 : Jvm.Cond.initialized "java/lang/System" ∈ wsA := List.mem_filter.mpr ⟨wt_1 (List.mem_of_getElem? (i := 14) rfl), rfl⟩
theorem wq1_15 : Jvm.Cond.initialized "java/lang/Integer" ∈ wsA := List.mem_filter.mpr ⟨wt_1 (List.mem_of_getElem? (i := 15) rfl), rfl⟩
theorem wq1_16 : Jvm.Cond.classLink "NoticeBoxesLaw" (7 : Nat) "NoticeBoxes" ∈ wsA := List.mem_filter.mpr ⟨wt_1 (List.mem_of_getElem? (i := 16) rfl), rfl⟩
theorem wq1_17 : Jvm.Cond.instantiable "NoticeBoxes" (7 : Nat) ∈ wsA := List.mem_filter.mpr ⟨wt_1 (List.mem_of_getElem? (i := 17) rfl), rfl⟩
theorem wq1_18 : Jvm.Cond.methodLink "NoticeBoxesLaw" (9 : Nat) ({ cls := "NoticeBoxes", name := "<init>", desc := "()V" } : Jvm.MethodName) ∈ wsA := List.mem_filter.mpr ⟨wt_1 (List.mem_of_getElem? (i := 18) rfl), rfl⟩
theorem wq1_19 : Jvm.Cond.instanceMethod ({ cls := "NoticeBoxes", name := "<init>", desc := "()V" } : Jvm.MethodName) ∈ wsA := List.mem_filter.mpr ⟨wt_1 (List.mem_of_getElem? (i := 19) rfl), rfl⟩
theorem wq1_20 : Jvm.Cond.code ({ cls := "NoticeBoxes", name := "<init>", desc := "()V" } : Jvm.MethodName) prog_1_method_1_code (2 : Nat) (Option.none : Option Jvm.ClassFile.FieldType) ∈ wsA := List.mem_filter.mpr ⟨wt_1 (List.mem_of_getElem? (i := 20) rfl), rfl⟩
theorem wq1_21 : Jvm.Cond.methodLink "NoticeBoxes" (1 : Nat) ({ cls := "java/lang/Object", name := "<init>", desc := "()V" } : Jvm.MethodName) ∈ wsA := List.mem_filter.mpr ⟨wt_1 (List.mem_of_getElem? (i := 21) rfl), rfl⟩
theorem wq1_22 : Jvm.Cond.instanceMethod ({ cls := "java/lang/Object", name := "<init>", desc := "()V" } : Jvm.MethodName) ∈ wsA := List.mem_filter.mpr ⟨wt_1 (List.mem_of_getElem? (i := 22) rfl), rfl⟩
theorem wq1_23 : Jvm.Cond.code ({ cls := "java/lang/Object", name := "<init>", desc := "()V" } : Jvm.MethodName) object_method_1_code (1 : Nat) (Option.none : Option Jvm.ClassFile.FieldType) ∈ wsA := List.mem_filter.mpr ⟨wt_1 (List.mem_of_getElem? (i := 23) rfl), rfl⟩
theorem wq1_24 : Jvm.Cond.classLink "NoticeBoxes" (7 : Nat) "NoticeBoxes$State" ∈ wsA := List.mem_filter.mpr ⟨wt_1 (List.mem_of_getElem? (i := 24) rfl), rfl⟩
theorem wq1_25 : Jvm.Cond.instantiable "NoticeBoxes$State" (11 : Nat) ∈ wsA := List.mem_filter.mpr ⟨wt_1 (List.mem_of_getElem? (i := 25) rfl), rfl⟩
theorem wq1_26 : Jvm.Cond.methodLink "NoticeBoxes" (9 : Nat) ({ cls := "NoticeBoxes$State", name := "<init>", desc := "()V" } : Jvm.MethodName) ∈ wsA := List.mem_filter.mpr ⟨wt_1 (List.mem_of_getElem? (i := 26) rfl), rfl⟩
theorem wq1_27 : Jvm.Cond.instanceMethod ({ cls := "NoticeBoxes$State", name := "<init>", desc := "()V" } : Jvm.MethodName) ∈ wsA := List.mem_filter.mpr ⟨wt_1 (List.mem_of_getElem? (i := 27) rfl), rfl⟩
theorem wq1_28 : Jvm.Cond.code ({ cls := "NoticeBoxes$State", name := "<init>", desc := "()V" } : Jvm.MethodName) prog_10_method_1_code (2 : Nat) (Option.none : Option Jvm.ClassFile.FieldType) ∈ wsA := List.mem_filter.mpr ⟨wt_1 (List.mem_of_getElem? (i := 28) rfl), rfl⟩
theorem wq1_29 : Jvm.Cond.methodLink "NoticeBoxes$State" (3 : Nat) ({ cls := "java/lang/Object", name := "<init>", desc := "()V" } : Jvm.MethodName) ∈ wsA := List.mem_filter.mpr ⟨wt_1 (List.mem_of_getElem? (i := 29) rfl), rfl⟩
theorem wq1_30 : Jvm.Cond.classLink "NoticeBoxes$State" (22 : Nat) "NoticeBoxes$Client" ∈ wsA := List.mem_filter.mpr ⟨wt_1 (List.mem_of_getElem? (i := 30) rfl), rfl⟩
theorem wq1_31 : Jvm.Cond.arrayOver (Jvm.ClassFile.FieldType.object "NoticeBoxes$Client") ∈ lw_tbl := wt_1 (List.mem_of_getElem? (i := 31) rfl)
theorem wq1_32 : Jvm.Cond.instantiable "NoticeBoxes$Client" (7 : Nat) ∈ wsA := List.mem_filter.mpr ⟨wt_1 (List.mem_of_getElem? (i := 32) rfl), rfl⟩
theorem wq1_33 : Jvm.Cond.methodLinkNest "NoticeBoxes$State" (34 : Nat) ({ cls := "NoticeBoxes$Client", name := "<init>", desc := "()V" } : Jvm.MethodName) "NoticeBoxes" ∈ lw_tbl := wt_1 (List.mem_of_getElem? (i := 33) rfl)
theorem wq1_34 : Jvm.Cond.instanceMethod ({ cls := "NoticeBoxes$Client", name := "<init>", desc := "()V" } : Jvm.MethodName) ∈ wsA := List.mem_filter.mpr ⟨wt_1 (List.mem_of_getElem? (i := 34) rfl), rfl⟩
theorem wq1_35 : Jvm.Cond.code ({ cls := "NoticeBoxes$Client", name := "<init>", desc := "()V" } : Jvm.MethodName) prog_5_method_1_code (1 : Nat) (Option.none : Option Jvm.ClassFile.FieldType) ∈ wsA := List.mem_filter.mpr ⟨wt_1 (List.mem_of_getElem? (i := 35) rfl), rfl⟩
theorem wq1_36 : Jvm.Cond.methodLink "NoticeBoxes$Client" (3 : Nat) ({ cls := "java/lang/Object", name := "<init>", desc := "()V" } : Jvm.MethodName) ∈ wsA := List.mem_filter.mpr ⟨wt_1 (List.mem_of_getElem? (i := 36) rfl), rfl⟩
theorem wq1_37 : Jvm.Cond.fieldLink "NoticeBoxes$Client" (18 : Nat) "NoticeBoxes$Client" "home" "I" ∈ wsA := List.mem_filter.mpr ⟨wt_1 (List.mem_of_getElem? (i := 37) rfl), rfl⟩
theorem wq1_38 : Jvm.Cond.fieldLink "NoticeBoxes" (125 : Nat) "NoticeBoxes$Client" "home" "I" ∈ wsA := List.mem_filter.mpr ⟨wt_1 (List.mem_of_getElem? (i := 38) rfl), rfl⟩
theorem wq1_39 : Jvm.Cond.fieldLink "NoticeBoxes$State" (72 : Nat) "NoticeBoxes$Client" "home" "I" ∈ wsA := List.mem_filter.mpr ⟨wt_1 (List.mem_of_getElem? (i := 39) rfl), rfl⟩
theorem wq1_40 : Jvm.Cond.fieldLink "NoticeBoxes$Client" (22 : Nat) "NoticeBoxes$Client" "present" "Z" ∈ wsA := List.mem_filter.mpr ⟨wt_1 (List.mem_of_getElem? (i := 40) rfl), rfl⟩
theorem wq1_41 : Jvm.Cond.fieldLink "NoticeBoxes" (130 : Nat) "NoticeBoxes$Client" "present" "Z" ∈ wsA := List.mem_filter.mpr ⟨wt_1 (List.mem_of_getElem? (i := 41) rfl), rfl⟩
theorem wq1_42 : Jvm.Cond.fieldLink "NoticeBoxes$Client" (26 : Nat) "NoticeBoxes$Client" "had" "I" ∈ wsA := List.mem_filter.mpr ⟨wt_1 (List.mem_of_getElem? (i := 42) rfl), rfl⟩
theorem wq1_43 : Jvm.Cond.fieldLink "NoticeBoxes$Book" (32 : Nat) "NoticeBoxes$Client" "had" "I" ∈ wsA := List.mem_filter.mpr ⟨wt_1 (List.mem_of_getElem? (i := 43) rfl), rfl⟩
theorem wq1_44 : Jvm.Cond.fieldLink "NoticeBoxes" (134 : Nat) "NoticeBoxes$Client" "had" "I" ∈ wsA := List.mem_filter.mpr ⟨wt_1 (List.mem_of_getElem? (i := 44) rfl), rfl⟩
theorem wq1_45 : Jvm.Cond.fieldLink "NoticeBoxes$Client" (29 : Nat) "NoticeBoxes$Client" "lost" "I" ∈ wsA := List.mem_filter.mpr ⟨wt_1 (List.mem_of_getElem? (i := 45) rfl), rfl⟩
theorem wq1_46 : Jvm.Cond.fieldLink "NoticeBoxes" (140 : Nat) "NoticeBoxes$Client" "lost" "I" ∈ wsA := List.mem_filter.mpr ⟨wt_1 (List.mem_of_getElem? (i := 46) rfl), rfl⟩
theorem wq1_47 : Jvm.Cond.fieldLink "NoticeBoxes$Client" (32 : Nat) "NoticeBoxes$Client" "keptCount" "I" ∈ wsA := List.mem_filter.mpr ⟨wt_1 (List.mem_of_getElem? (i := 47) rfl), rfl⟩
theorem wq1_48 : Jvm.Cond.fieldLink "NoticeBoxes" (137 : Nat) "NoticeBoxes$Client" "keptCount" "I" ∈ wsA := List.mem_filter.mpr ⟨wt_1 (List.mem_of_getElem? (i := 48) rfl), rfl⟩
theorem wq1_49 : Jvm.Cond.fieldLink "NoticeBoxes$Client" (9 : Nat) "NoticeBoxes$Client" "kept" "[I" ∈ wsA := List.mem_filter.mpr ⟨wt_1 (List.mem_of_getElem? (i := 49) rfl), rfl⟩
theorem wq1_50 : Jvm.Cond.fieldLink "NoticeBoxes$Client" (15 : Nat) "NoticeBoxes$Client" "latestFirst" "[I" ∈ wsA := List.mem_filter.mpr ⟨wt_1 (List.mem_of_getElem? (i := 50) rfl), rfl⟩
theorem wq1_51 : Jvm.Cond.lays "NoticeBoxes$Client" "NoticeBoxes$Client" "home" "I" ∈ wsA := List.mem_filter.mpr ⟨wt_1 (List.mem_of_getElem? (i := 51) rfl), rfl⟩
theorem wq1_52 : Jvm.Cond.soleField "NoticeBoxes$Client" "home" ∈ lw_tbl := wt_1 (List.mem_of_getElem? (i := 52) rfl)
theorem wq1_53 : Jvm.Cond.lays "NoticeBoxes$Client" "NoticeBoxes$Client" "present" "Z" ∈ wsA := List.mem_filter.mpr ⟨wt_1 (List.mem_of_getElem? (i := 53) rfl), rfl⟩
theorem wq1_54 : Jvm.Cond.soleField "NoticeBoxes$Client" "present" ∈ lw_tbl := wt_1 (List.mem_of_getElem? (i := 54) rfl)
theorem wq1_55 : Jvm.Cond.lays "NoticeBoxes$Client" "NoticeBoxes$Client" "had" "I" ∈ wsA := List.mem_filter.mpr ⟨wt_1 (List.mem_of_getElem? (i := 55) rfl), rfl⟩
theorem wq1_56 : Jvm.Cond.soleField "NoticeBoxes$Client" "had" ∈ lw_tbl := wt_1 (List.mem_of_getElem? (i := 56) rfl)
theorem wq1_57 : Jvm.Cond.lays "NoticeBoxes$Client" "NoticeBoxes$Client" "lost" "I" ∈ wsA := List.mem_filter.mpr ⟨wt_1 (List.mem_of_getElem? (i := 57) rfl), rfl⟩
theorem wq1_58 : Jvm.Cond.soleField "NoticeBoxes$Client" "lost" ∈ lw_tbl := wt_1 (List.mem_of_getElem? (i := 58) rfl)
theorem wq1_59 : Jvm.Cond.lays "NoticeBoxes$Client" "NoticeBoxes$Client" "keptCount" "I" ∈ wsA := List.mem_filter.mpr ⟨wt_1 (List.mem_of_getElem? (i := 59) rfl), rfl⟩
theorem wq1_60 : Jvm.Cond.soleField "NoticeBoxes$Client" "keptCount" ∈ lw_tbl := wt_1 (List.mem_of_getElem? (i := 60) rfl)
theorem wq1_61 : Jvm.Cond.laysFinal "NoticeBoxes$Client" "NoticeBoxes$Client" "kept" "[I" ∈ wsA := List.mem_filter.mpr ⟨wt_1 (List.mem_of_getElem? (i := 61) rfl), rfl⟩
theorem wq1_62 : Jvm.Cond.soleField "NoticeBoxes$Client" "kept" ∈ lw_tbl := wt_1 (List.mem_of_getElem? (i := 62) rfl)
theorem wq1_63 : Jvm.Cond.laysFinal "NoticeBoxes$Client" "NoticeBoxes$Client" "latestFirst" "[I" ∈ wsA := List.mem_filter.mpr ⟨wt_1 (List.mem_of_getElem? (i := 63) rfl), rfl⟩
theorem wq1_64 : Jvm.Cond.soleField "NoticeBoxes$Client" "latestFirst" ∈ lw_tbl := wt_1 (List.mem_of_getElem? (i := 64) rfl)
theorem wq1_65 : Jvm.Cond.superclass "NoticeBoxes$Client" "java/lang/Object" ∈ lw_tbl := wt_1 (List.mem_of_getElem? (i := 65) rfl)
theorem wq1_66 : Jvm.Cond.arrayClass Jvm.ClassFile.FieldType.int ∈ wsA := List.mem_filter.mpr ⟨wt_1 (List.mem_of_getElem? (i := 66) rfl), rfl⟩
theorem wq1_67 : Jvm.Cond.fieldLink "NoticeBoxes$State" (9 : Nat) "NoticeBoxes$State" "brokerCount" "I" ∈ wsA := List.mem_filter.mpr ⟨wt_1 (List.mem_of_getElem? (i := 67) rfl), rfl⟩
theorem wq1_68 : Jvm.Cond.fieldLink "NoticeBoxes" (58 : Nat) "NoticeBoxes$State" "brokerCount" "I" ∈ wsA := List.mem_filter.mpr ⟨wt_1 (List.mem_of_getElem? (i := 68) rfl), rfl⟩
theorem wq1_69 : Jvm.Cond.fieldLink "NoticeBoxes$Journey" (41 : Nat) "NoticeBoxes$State" "brokerCount" "I" ∈ wsA := List.mem_filter.mpr ⟨wt_1 (List.mem_of_getElem? (i := 69) rfl), rfl⟩
theorem wq1_70 : Jvm.Cond.fieldLink "NoticeBoxes$Tellings" (31 : Nat) "NoticeBoxes$State" "brokerCount" "I" ∈ wsA := List.mem_filter.mpr ⟨wt_1 (List.mem_of_getElem? (i := 70) rfl), rfl⟩
theorem wq1_71 : Jvm.Cond.fieldLink "NoticeBoxes$State" (35 : Nat) "NoticeBoxes$State" "clientCount" "I" ∈ wsA := List.mem_filter.mpr ⟨wt_1 (List.mem_of_getElem? (i := 71) rfl), rfl⟩
theorem wq1_72 : Jvm.Cond.fieldLink "NoticeBoxes" (62 : Nat) "NoticeBoxes$State" "clientCount" "I" ∈ wsA := List.mem_filter.mpr ⟨wt_1 (List.mem_of_getElem? (i := 72) rfl), rfl⟩
theorem wq1_73 : Jvm.Cond.fieldLink "NoticeBoxes$State" (38 : Nat) "NoticeBoxes$State" "wishCount" "I" ∈ wsA := List.mem_filter.mpr ⟨wt_1 (List.mem_of_getElem? (i := 73) rfl), rfl⟩
theorem wq1_74 : Jvm.Cond.fieldLink "NoticeBoxes" (65 : Nat) "NoticeBoxes$State" "wishCount" "I" ∈ wsA := List.mem_filter.mpr ⟨wt_1 (List.mem_of_getElem? (i := 74) rfl), rfl⟩
theorem wq1_75 : Jvm.Cond.fieldLink "NoticeBoxes$Tellings" (53 : Nat) "NoticeBoxes$State" "wishCount" "I" ∈ wsA := List.mem_filter.mpr ⟨wt_1 (List.mem_of_getElem? (i := 75) rfl), rfl⟩
theorem wq1_76 : Jvm.Cond.fieldLink "NoticeBoxes$State" (15 : Nat) "NoticeBoxes$State" "mostTold" "I" ∈ wsA := List.mem_filter.mpr ⟨wt_1 (List.mem_of_getElem? (i := 76) rfl), rfl⟩
theorem wq1_77 : Jvm.Cond.fieldLink "NoticeBoxes" (68 : Nat) "NoticeBoxes$State" "mostTold" "I" ∈ wsA := List.mem_filter.mpr ⟨wt_1 (List.mem_of_getElem? (i := 77) rfl), rfl⟩
theorem wq1_78 : Jvm.Cond.fieldLink "NoticeBoxes$Tellings" (73 : Nat) "NoticeBoxes$State" "mostTold" "I" ∈ wsA := List.mem_filter.mpr ⟨wt_1 (List.mem_of_getElem? (i := 78) rfl), rfl⟩
theorem wq1_79 : Jvm.Cond.fieldLink "NoticeBoxes$State" (41 : Nat) "NoticeBoxes$State" "nextNotice" "I" ∈ wsA := List.mem_filter.mpr ⟨wt_1 (List.mem_of_getElem? (i := 79) rfl), rfl⟩
theorem wq1_80 : Jvm.Cond.fieldLink "NoticeBoxes" (71 : Nat) "NoticeBoxes$State" "nextNotice" "I" ∈ wsA := List.mem_filter.mpr ⟨wt_1 (List.mem_of_getElem? (i := 80) rfl), rfl⟩
theorem wq1_81 : Jvm.Cond.fieldLink "NoticeBoxes$State" (44 : Nat) "NoticeBoxes$State" "linkSum" "I" ∈ wsA := List.mem_filter.mpr ⟨wt_1 (List.mem_of_getElem? (i := 81) rfl), rfl⟩
theorem wq1_82 : Jvm.Cond.fieldLink "NoticeBoxes" (82 : Nat) "NoticeBoxes$State" "linkSum" "I" ∈ wsA := List.mem_filter.mpr ⟨wt_1 (List.mem_of_getElem? (i := 82) rfl), rfl⟩
theorem wq1_83 : Jvm.Cond.fieldLink "NoticeBoxes$State" (47 : Nat) "NoticeBoxes$State" "vainSum" "I" ∈ wsA := List.mem_filter.mpr ⟨wt_1 (List.mem_of_getElem? (i := 83) rfl), rfl⟩
theorem wq1_84 : Jvm.Cond.fieldLink "NoticeBoxes" (85 : Nat) "NoticeBoxes$State" "vainSum" "I" ∈ wsA := List.mem_filter.mpr ⟨wt_1 (List.mem_of_getElem? (i := 84) rfl), rfl⟩
theorem wq1_85 : Jvm.Cond.fieldLink "NoticeBoxes$State" (18 : Nat) "NoticeBoxes$State" "above" "[I" ∈ wsA := List.mem_filter.mpr ⟨wt_1 (List.mem_of_getElem? (i := 85) rfl), rfl⟩
theorem wq1_86 : Jvm.Cond.fieldLink "NoticeBoxes$Tellings" (25 : Nat) "NoticeBoxes$State" "above" "[I" ∈ wsA := List.mem_filter.mpr ⟨wt_1 (List.mem_of_getElem? (i := 86) rfl), rfl⟩
theorem wq1_87 : Jvm.Cond.fieldLink "NoticeBoxes" (104 : Nat) "NoticeBoxes$State" "above" "[I" ∈ wsA := List.mem_filter.mpr ⟨wt_1 (List.mem_of_getElem? (i := 87) rfl), rfl⟩
theorem wq1_88 : Jvm.Cond.fieldLink "NoticeBoxes$State" (24 : Nat) "NoticeBoxes$State" "clients" "[LNoticeBoxes$Client;" ∈ wsA := List.mem_filter.mpr ⟨wt_1 (List.mem_of_getElem? (i := 88) rfl), rfl⟩
theorem wq1_89 : Jvm.Cond.fieldLink "NoticeBoxes$Book" (28 : Nat) "NoticeBoxes$State" "clients" "[LNoticeBoxes$Client;" ∈ wsA := List.mem_filter.mpr ⟨wt_1 (List.mem_of_getElem? (i := 89) rfl), rfl⟩
theorem wq1_90 : Jvm.Cond.fieldLink "NoticeBoxes" (121 : Nat) "NoticeBoxes$State" "clients" "[LNoticeBoxes$Client;" ∈ wsA := List.mem_filter.mpr ⟨wt_1 (List.mem_of_getElem? (i := 90) rfl), rfl⟩
theorem wq1_91 : Jvm.Cond.fieldLink "NoticeBoxes$State" (28 : Nat) "NoticeBoxes$State" "wishers" "[I" ∈ wsA := List.mem_filter.mpr ⟨wt_1 (List.mem_of_getElem? (i := 91) rfl), rfl⟩
theorem wq1_92 : Jvm.Cond.fieldLink "NoticeBoxes" (153 : Nat) "NoticeBoxes$State" "wishers" "[I" ∈ wsA := List.mem_filter.mpr ⟨wt_1 (List.mem_of_getElem? (i := 92) rfl), rfl⟩
theorem wq1_93 : Jvm.Cond.fieldLink "NoticeBoxes$State" (31 : Nat) "NoticeBoxes$State" "wishBoxes" "[I" ∈ wsA := List.mem_filter.mpr ⟨wt_1 (List.mem_of_getElem? (i := 93) rfl), rfl⟩
theorem wq1_94 : Jvm.Cond.fieldLink "NoticeBoxes$Tellings" (60 : Nat) "NoticeBoxes$State" "wishBoxes" "[I" ∈ wsA := List.mem_filter.mpr ⟨wt_1 (List.mem_of_getElem? (i := 94) rfl), rfl⟩
theorem wq1_95 : Jvm.Cond.fieldLink "NoticeBoxes" (156 : Nat) "NoticeBoxes$State" "wishBoxes" "[I" ∈ wsA := List.mem_filter.mpr ⟨wt_1 (List.mem_of_getElem? (i := 95) rfl), rfl⟩
theorem wq1_96 : Jvm.Cond.lays "NoticeBoxes$State" "NoticeBoxes$State" "brokerCount" "I" ∈ wsA := List.mem_filter.mpr ⟨wt_1 (List.mem_of_getElem? (i := 96) rfl), rfl⟩
theorem wq1_97 : Jvm.Cond.soleField "NoticeBoxes$State" "brokerCount" ∈ lw_tbl := wt_1 (List.mem_of_getElem? (i := 97) rfl)
theorem wq1_98 : Jvm.Cond.lays "NoticeBoxes$State" "NoticeBoxes$State" "clientCount" "I" ∈ wsA := List.mem_filter.mpr ⟨wt_1 (List.mem_of_getElem? (i := 98) rfl), rfl⟩
theorem wq1_99 : Jvm.Cond.soleField "NoticeBoxes$State" "clientCount" ∈ lw_tbl := wt_1 (List.mem_of_getElem? (i := 99) rfl)
theorem wq1_100 : Jvm.Cond.lays "NoticeBoxes$State" "NoticeBoxes$State" "wishCount" "I" ∈ wsA := List.mem_filter.mpr ⟨wt_1 (List.mem_of_getElem? (i := 100) rfl), rfl⟩
theorem wq1_101 : Jvm.Cond.soleField "NoticeBoxes$State" "wishCount" ∈ lw_tbl := wt_1 (List.mem_of_getElem? (i := 101) rfl)
theorem wq1_102 : Jvm.Cond.lays "NoticeBoxes$State" "NoticeBoxes$State" "mostTold" "I" ∈ wsA := List.mem_filter.mpr ⟨wt_1 (List.mem_of_getElem? (i := 102) rfl), rfl⟩
theorem wq1_103 : Jvm.Cond.soleField "NoticeBoxes$State" "mostTold" ∈ lw_tbl := wt_1 (List.mem_of_getElem? (i := 103) rfl)
theorem wq1_104 : Jvm.Cond.lays "NoticeBoxes$State" "NoticeBoxes$State" "nextNotice" "I" ∈ wsA := List.mem_filter.mpr ⟨wt_1 (List.mem_of_getElem? (i := 104) rfl), rfl⟩
theorem wq1_105 : Jvm.Cond.soleField "NoticeBoxes$State" "nextNotice" ∈ lw_tbl := wt_1 (List.mem_of_getElem? (i := 105) rfl)
theorem wq1_106 : Jvm.Cond.lays "NoticeBoxes$State" "NoticeBoxes$State" "linkSum" "I" ∈ wsA := List.mem_filter.mpr ⟨wt_1 (List.mem_of_getElem? (i := 106) rfl), rfl⟩
theorem wq1_107 : Jvm.Cond.soleField "NoticeBoxes$State" "linkSum" ∈ lw_tbl := wt_1 (List.mem_of_getElem? (i := 107) rfl)
theorem wq1_108 : Jvm.Cond.lays "NoticeBoxes$State" "NoticeBoxes$State" "vainSum" "I" ∈ wsA := List.mem_filter.mpr ⟨wt_1 (List.mem_of_getElem? (i := 108) rfl), rfl⟩
theorem wq1_109 : Jvm.Cond.soleField "NoticeBoxes$State" "vainSum" ∈ lw_tbl := wt_1 (List.mem_of_getElem? (i := 109) rfl)
theorem wq1_110 : Jvm.Cond.laysFinal "NoticeBoxes$State" "NoticeBoxes$State" "above" "[I" ∈ wsA := List.mem_filter.mpr ⟨wt_1 (List.mem_of_getElem? (i := 110) rfl), rfl⟩
theorem wq1_111 : Jvm.Cond.soleField "NoticeBoxes$State" "above" ∈ lw_tbl := wt_1 (List.mem_of_getElem? (i := 111) rfl)
theorem wq1_112 : Jvm.Cond.laysFinal "NoticeBoxes$State" "NoticeBoxes$State" "clients" "[LNoticeBoxes$Client;" ∈ wsA := List.mem_filter.mpr ⟨wt_1 (List.mem_of_getElem? (i := 112) rfl), rfl⟩
theorem wq1_113 : Jvm.Cond.soleField "NoticeBoxes$State" "clients" ∈ lw_tbl := wt_1 (List.mem_of_getElem? (i := 113) rfl)
theorem wq1_114 : Jvm.Cond.laysFinal "NoticeBoxes$State" "NoticeBoxes$State" "wishers" "[I" ∈ wsA := List.mem_filter.mpr ⟨wt_1 (List.mem_of_getElem? (i := 114) rfl), rfl⟩
theorem wq1_115 : Jvm.Cond.soleField "NoticeBoxes$State" "wishers" ∈ lw_tbl := wt_1 (List.mem_of_getElem? (i := 115) rfl)
theorem wq1_116 : Jvm.Cond.laysFinal "NoticeBoxes$State" "NoticeBoxes$State" "wishBoxes" "[I" ∈ wsA := List.mem_filter.mpr ⟨wt_1 (List.mem_of_getElem? (i := 116) rfl), rfl⟩
theorem wq1_117 : Jvm.Cond.soleField "NoticeBoxes$State" "wishBoxes" ∈ lw_tbl := wt_1 (List.mem_of_getElem? (i := 117) rfl)
theorem wq1_118 : Jvm.Cond.superclass "NoticeBoxes$State" "java/lang/Object" ∈ lw_tbl := wt_1 (List.mem_of_getElem? (i := 118) rfl)
theorem wq1_119 : Jvm.Cond.classLink "NoticeBoxes" (16 : Nat) "NoticeBoxes$Tellings" ∈ wsA := List.mem_filter.mpr ⟨wt_1 (List.mem_of_getElem? (i := 119) rfl), rfl⟩
theorem wq1_120 : Jvm.Cond.instantiable "NoticeBoxes$Tellings" (3 : Nat) ∈ wsA := List.mem_filter.mpr ⟨wt_1 (List.mem_of_getElem? (i := 120) rfl), rfl⟩
theorem wq1_121 : Jvm.Cond.methodLink "NoticeBoxes" (18 : Nat) ({ cls := "NoticeBoxes$Tellings", name := "<init>", desc := "()V" } : Jvm.MethodName) ∈ wsA := List.mem_filter.mpr ⟨wt_1 (List.mem_of_getElem? (i := 121) rfl), rfl⟩
theorem wq1_122 : Jvm.Cond.instanceMethod ({ cls := "NoticeBoxes$Tellings", name := "<init>", desc := "()V" } : Jvm.MethodName) ∈ wsA := List.mem_filter.mpr ⟨wt_1 (List.mem_of_getElem? (i := 122) rfl), rfl⟩
theorem wq1_123 : Jvm.Cond.code ({ cls := "NoticeBoxes$Tellings", name := "<init>", desc := "()V" } : Jvm.MethodName) prog_11_method_1_code (2 : Nat) (Option.none : Option Jvm.ClassFile.FieldType) ∈ wsA := List.mem_filter.mpr ⟨wt_1 (List.mem_of_getElem? (i := 123) rfl), rfl⟩
theorem wq1_124 : Jvm.Cond.methodLink "NoticeBoxes$Tellings" (3 : Nat) ({ cls := "java/lang/Object", name := "<init>", desc := "()V" } : Jvm.MethodName) ∈ wsA := List.mem_filter.mpr ⟨wt_1 (List.mem_of_getElem? (i := 124) rfl), rfl⟩
theorem wq1_125 : Jvm.Cond.classLink "NoticeBoxes$Tellings" (9 : Nat) "NoticeBoxes$BoxList" ∈ wsA := List.mem_filter.mpr ⟨wt_1 (List.mem_of_getElem? (i := 125) rfl), rfl⟩
theorem wq1_126 : Jvm.Cond.arrayOver (Jvm.ClassFile.FieldType.object "NoticeBoxes$BoxList") ∈ lw_tbl := wt_1 (List.mem_of_getElem? (i := 126) rfl)
theorem wq1_127 : Jvm.Cond.instantiable "NoticeBoxes$BoxList" (2 : Nat) ∈ wsA := List.mem_filter.mpr ⟨wt_1 (List.mem_of_getElem? (i := 127) rfl), rfl⟩
theorem wq1_128 : Jvm.Cond.methodLinkNest "NoticeBoxes$Tellings" (20 : Nat) ({ cls := "NoticeBoxes$BoxList", name := "<init>", desc := "()V" } : Jvm.MethodName) "NoticeBoxes" ∈ lw_tbl := wt_1 (List.mem_of_getElem? (i := 128) rfl)
theorem wq1_129 : Jvm.Cond.instanceMethod ({ cls := "NoticeBoxes$BoxList", name := "<init>", desc := "()V" } : Jvm.MethodName) ∈ wsA := List.mem_filter.mpr ⟨wt_1 (List.mem_of_getElem? (i := 129) rfl), rfl⟩
theorem wq1_130 : Jvm.Cond.code ({ cls := "NoticeBoxes$BoxList", name := "<init>", desc := "()V" } : Jvm.MethodName) prog_4_method_1_code (1 : Nat) (Option.none : Option Jvm.ClassFile.FieldType) ∈ wsA := List.mem_filter.mpr ⟨wt_1 (List.mem_of_getElem? (i := 130) rfl), rfl⟩
theorem wq1_131 : Jvm.Cond.methodLink "NoticeBoxes$BoxList" (3 : Nat) ({ cls := "java/lang/Object", name := "<init>", desc := "()V" } : Jvm.MethodName) ∈ wsA := List.mem_filter.mpr ⟨wt_1 (List.mem_of_getElem? (i := 131) rfl), rfl⟩
theorem wq1_132 : Jvm.Cond.fieldLink "NoticeBoxes$BoxList" (9 : Nat) "NoticeBoxes$BoxList" "boxes" "[I" ∈ wsA := List.mem_filter.mpr ⟨wt_1 (List.mem_of_getElem? (i := 132) rfl), rfl⟩
theorem wq1_133 : Jvm.Cond.fieldLink "NoticeBoxes$Tellings" (70 : Nat) "NoticeBoxes$BoxList" "boxes" "[I" ∈ wsA := List.mem_filter.mpr ⟨wt_1 (List.mem_of_getElem? (i := 133) rfl), rfl⟩
theorem wq1_134 : Jvm.Cond.fieldLink "NoticeBoxes" (182 : Nat) "NoticeBoxes$BoxList" "boxes" "[I" ∈ wsA := List.mem_filter.mpr ⟨wt_1 (List.mem_of_getElem? (i := 134) rfl), rfl⟩
theorem wq1_135 : Jvm.Cond.fieldLink "NoticeBoxes$BoxList" (15 : Nat) "NoticeBoxes$BoxList" "count" "I" ∈ wsA := List.mem_filter.mpr ⟨wt_1 (List.mem_of_getElem? (i := 135) rfl), rfl⟩
theorem wq1_136 : Jvm.Cond.fieldLink "NoticeBoxes$Tellings" (35 : Nat) "NoticeBoxes$BoxList" "count" "I" ∈ wsA := List.mem_filter.mpr ⟨wt_1 (List.mem_of_getElem? (i := 136) rfl), rfl⟩
theorem wq1_137 : Jvm.Cond.fieldLink "NoticeBoxes" (179 : Nat) "NoticeBoxes$BoxList" "count" "I" ∈ wsA := List.mem_filter.mpr ⟨wt_1 (List.mem_of_getElem? (i := 137) rfl), rfl⟩
theorem wq1_138 : Jvm.Cond.laysFinal "NoticeBoxes$BoxList" "NoticeBoxes$BoxList" "boxes" "[I" ∈ wsA := List.mem_filter.mpr ⟨wt_1 (List.mem_of_getElem? (i := 138) rfl), rfl⟩
theorem wq1_139 : Jvm.Cond.soleField "NoticeBoxes$BoxList" "boxes" ∈ lw_tbl := wt_1 (List.mem_of_getElem? (i := 139) rfl)
theorem wq1_140 : Jvm.Cond.lays "NoticeBoxes$BoxList" "NoticeBoxes$BoxList" "count" "I" ∈ wsA := List.mem_filter.mpr ⟨wt_1 (List.mem_of_getElem? (i := 140) rfl), rfl⟩
theorem wq1_141 : Jvm.Cond.soleField "NoticeBoxes$BoxList" "count" ∈ lw_tbl := wt_1 (List.mem_of_getElem? (i := 141) rfl)
theorem wq1_142 : Jvm.Cond.superclass "NoticeBoxes$BoxList" "java/lang/Object" ∈ lw_tbl := wt_1 (List.mem_of_getElem? (i := 142) rfl)
theorem wq1_143 : Jvm.Cond.fieldLink "NoticeBoxes$Tellings" (11 : Nat) "NoticeBoxes$Tellings" "upward" "[LNoticeBoxes$BoxList;" ∈ wsA := List.mem_filter.mpr ⟨wt_1 (List.mem_of_getElem? (i := 143) rfl), rfl⟩
theorem wq1_144 : Jvm.Cond.fieldLink "NoticeBoxes$Tellings" (17 : Nat) "NoticeBoxes$Tellings" "downward" "[LNoticeBoxes$BoxList;" ∈ wsA := List.mem_filter.mpr ⟨wt_1 (List.mem_of_getElem? (i := 144) rfl), rfl⟩
theorem wq1_145 : Jvm.Cond.fieldLink "NoticeBoxes$Tellings" (21 : Nat) "NoticeBoxes$Tellings" "fresh" "Z" ∈ wsA := List.mem_filter.mpr ⟨wt_1 (List.mem_of_getElem? (i := 145) rfl), rfl⟩
theorem wq1_146 : Jvm.Cond.laysFinal "NoticeBoxes$Tellings" "NoticeBoxes$Tellings" "upward" "[LNoticeBoxes$BoxList;" ∈ wsA := List.mem_filter.mpr ⟨wt_1 (List.mem_of_getElem? (i := 146) rfl), rfl⟩
theorem wq1_147 : Jvm.Cond.soleField "NoticeBoxes$Tellings" "upward" ∈ lw_tbl := wt_1 (List.mem_of_getElem? (i := 147) rfl)
theorem wq1_148 : Jvm.Cond.laysFinal "NoticeBoxes$Tellings" "NoticeBoxes$Tellings" "downward" "[LNoticeBoxes$BoxList;" ∈ wsA := List.mem_filter.mpr ⟨wt_1 (List.mem_of_getElem? (i := 148) rfl), rfl⟩
theorem wq1_149 : Jvm.Cond.soleField "NoticeBoxes$Tellings" "downward" ∈ lw_tbl := wt_1 (List.mem_of_getElem? (i := 149) rfl)
theorem wq1_150 : Jvm.Cond.lays "NoticeBoxes$Tellings" "NoticeBoxes$Tellings" "fresh" "Z" ∈ wsA := List.mem_filter.mpr ⟨wt_1 (List.mem_of_getElem? (i := 150) rfl), rfl⟩
theorem wq1_151 : Jvm.Cond.soleField "NoticeBoxes$Tellings" "fresh" ∈ lw_tbl := wt_1 (List.mem_of_getElem? (i := 151) rfl)
theorem wq1_152 : Jvm.Cond.superclass "NoticeBoxes$Tellings" "java/lang/Object" ∈ lw_tbl := wt_1 (List.mem_of_getElem? (i := 152) rfl)
theorem wq1_153 : Jvm.Cond.classLink "NoticeBoxes" (23 : Nat) "NoticeBoxes$Journey" ∈ wsA := List.mem_filter.mpr ⟨wt_1 (List.mem_of_getElem? (i := 153) rfl), rfl⟩
theorem wq1_154 : Jvm.Cond.instantiable "NoticeBoxes$Journey" (5 : Nat) ∈ wsA := List.mem_filter.mpr ⟨wt_1 (List.mem_of_getElem? (i := 154) rfl), rfl⟩
theorem wq1_155 : Jvm.Cond.methodLinkNest "NoticeBoxes" (25 : Nat) ({ cls := "NoticeBoxes$Journey", name := "<init>", desc := "()V" } : Jvm.MethodName) "NoticeBoxes" ∈ lw_tbl := wt_1 (List.mem_of_getElem? (i := 155) rfl)
theorem wq1_156 : Jvm.Cond.instanceMethod ({ cls := "NoticeBoxes$Journey", name := "<init>", desc := "()V" } : Jvm.MethodName) ∈ wsA := List.mem_filter.mpr ⟨wt_1 (List.mem_of_getElem? (i := 156) rfl), rfl⟩
theorem wq1_157 : Jvm.Cond.code ({ cls := "NoticeBoxes$Journey", name := "<init>", desc := "()V" } : Jvm.MethodName) prog_8_method_1_code (1 : Nat) (Option.none : Option Jvm.ClassFile.FieldType) ∈ wsA := List.mem_filter.mpr ⟨wt_1 (List.mem_of_getElem? (i := 157) rfl), rfl⟩
theorem wq1_158 : Jvm.Cond.methodLink "NoticeBoxes$Journey" (3 : Nat) ({ cls := "java/lang/Object", name := "<init>", desc := "()V" } : Jvm.MethodName) ∈ wsA := List.mem_filter.mpr ⟨wt_1 (List.mem_of_getElem? (i := 158) rfl), rfl⟩
theorem wq1_159 : Jvm.Cond.fieldLink "NoticeBoxes$Journey" (9 : Nat) "NoticeBoxes$Journey" "reached" "[I" ∈ wsA := List.mem_filter.mpr ⟨wt_1 (List.mem_of_getElem? (i := 159) rfl), rfl⟩
theorem wq1_160 : Jvm.Cond.fieldLink "NoticeBoxes$Journey" (21 : Nat) "NoticeBoxes$Journey" "places" "I" ∈ wsA := List.mem_filter.mpr ⟨wt_1 (List.mem_of_getElem? (i := 160) rfl), rfl⟩
theorem wq1_161 : Jvm.Cond.fieldLink "NoticeBoxes" (199 : Nat) "NoticeBoxes$Journey" "places" "I" ∈ wsA := List.mem_filter.mpr ⟨wt_1 (List.mem_of_getElem? (i := 161) rfl), rfl⟩
theorem wq1_162 : Jvm.Cond.fieldLink "NoticeBoxes$Journey" (25 : Nat) "NoticeBoxes$Journey" "getters" "I" ∈ wsA := List.mem_filter.mpr ⟨wt_1 (List.mem_of_getElem? (i := 162) rfl), rfl⟩
theorem wq1_163 : Jvm.Cond.fieldLink "NoticeBoxes" (202 : Nat) "NoticeBoxes$Journey" "getters" "I" ∈ wsA := List.mem_filter.mpr ⟨wt_1 (List.mem_of_getElem? (i := 163) rfl), rfl⟩
theorem wq1_164 : Jvm.Cond.fieldLink "NoticeBoxes$State" (90 : Nat) "NoticeBoxes$Journey" "getters" "I" ∈ wsA := List.mem_filter.mpr ⟨wt_1 (List.mem_of_getElem? (i := 164) rfl), rfl⟩
theorem wq1_165 : Jvm.Cond.fieldLink "NoticeBoxes$Journey" (38 : Nat) "NoticeBoxes$Journey" "vain" "I" ∈ wsA := List.mem_filter.mpr ⟨wt_1 (List.mem_of_getElem? (i := 165) rfl), rfl⟩
theorem wq1_166 : Jvm.Cond.fieldLink "NoticeBoxes" (205 : Nat) "NoticeBoxes$Journey" "vain" "I" ∈ wsA := List.mem_filter.mpr ⟨wt_1 (List.mem_of_getElem? (i := 166) rfl), rfl⟩
theorem wq1_167 : Jvm.Cond.fieldLink "NoticeBoxes$State" (101 : Nat) "NoticeBoxes$Journey" "vain" "I" ∈ wsA := List.mem_filter.mpr ⟨wt_1 (List.mem_of_getElem? (i := 167) rfl), rfl⟩
theorem wq1_168 : Jvm.Cond.fieldLink "NoticeBoxes$Journey" (28 : Nat) "NoticeBoxes$Journey" "links" "I" ∈ wsA := List.mem_filter.mpr ⟨wt_1 (List.mem_of_getElem? (i := 168) rfl), rfl⟩
theorem wq1_169 : Jvm.Cond.fieldLink "NoticeBoxes" (208 : Nat) "NoticeBoxes$Journey" "links" "I" ∈ wsA := List.mem_filter.mpr ⟨wt_1 (List.mem_of_getElem? (i := 169) rfl), rfl⟩
theorem wq1_170 : Jvm.Cond.fieldLink "NoticeBoxes$State" (98 : Nat) "NoticeBoxes$Journey" "links" "I" ∈ wsA := List.mem_filter.mpr ⟨wt_1 (List.mem_of_getElem? (i := 170) rfl), rfl⟩
theorem wq1_171 : Jvm.Cond.laysFinal "NoticeBoxes$Journey" "NoticeBoxes$Journey" "reached" "[I" ∈ wsA := List.mem_filter.mpr ⟨wt_1 (List.mem_of_getElem? (i := 171) rfl), rfl⟩
theorem wq1_172 : Jvm.Cond.soleField "NoticeBoxes$Journey" "reached" ∈ lw_tbl := wt_1 (List.mem_of_getElem? (i := 172) rfl)
theorem wq1_173 : Jvm.Cond.lays "NoticeBoxes$Journey" "NoticeBoxes$Journey" "places" "I" ∈ wsA := List.mem_filter.mpr ⟨wt_1 (List.mem_of_getElem? (i := 173) rfl), rfl⟩
theorem wq1_174 : Jvm.Cond.soleField "NoticeBoxes$Journey" "places" ∈ lw_tbl := wt_1 (List.mem_of_getElem? (i := 174) rfl)
theorem wq1_175 : Jvm.Cond.lays "NoticeBoxes$Journey" "NoticeBoxes$Journey" "getters" "I" ∈ wsA := List.mem_filter.mpr ⟨wt_1 (List.mem_of_getElem? (i := 175) rfl), rfl⟩
theorem wq1_176 : Jvm.Cond.soleField "NoticeBoxes$Journey" "getters" ∈ lw_tbl := wt_1 (List.mem_of_getElem? (i := 176) rfl)
theorem wq1_177 : Jvm.Cond.lays "NoticeBoxes$Journey" "NoticeBoxes$Journey" "vain" "I" ∈ wsA := List.mem_filter.mpr ⟨wt_1 (List.mem_of_getElem? (i := 177) rfl), rfl⟩
theorem wq1_178 : Jvm.Cond.soleField "NoticeBoxes$Journey" "vain" ∈ lw_tbl := wt_1 (List.mem_of_getElem? (i := 178) rfl)
theorem wq1_179 : Jvm.Cond.lays "NoticeBoxes$Journey" "NoticeBoxes$Journey" "links" "I" ∈ wsA := List.mem_filter.mpr ⟨wt_1 (List.mem_of_getElem? (i := 179) rfl), rfl⟩
theorem wq1_180 : Jvm.Cond.soleField "NoticeBoxes$Journey" "links" ∈ lw_tbl := wt_1 (List.mem_of_getElem? (i := 180) rfl)
theorem wq1_181 : Jvm.Cond.superclass "NoticeBoxes$Journey" "java/lang/Object" ∈ lw_tbl := wt_1 (List.mem_of_getElem? (i := 181) rfl)
theorem wq1_182 : Jvm.Cond.classLink "NoticeBoxes" (30 : Nat) "NoticeBoxes$Past" ∈ wsA := List.mem_filter.mpr ⟨wt_1 (List.mem_of_getElem? (i := 182) rfl), rfl⟩
theorem wq1_183 : Jvm.Cond.instantiable "NoticeBoxes$Past" (3 : Nat) ∈ wsA := List.mem_filter.mpr ⟨wt_1 (List.mem_of_getElem? (i := 183) rfl), rfl⟩
theorem wq1_184 : Jvm.Cond.methodLink "NoticeBoxes" (32 : Nat) ({ cls := "NoticeBoxes$Past", name := "<init>", desc := "()V" } : Jvm.MethodName) ∈ wsA := List.mem_filter.mpr ⟨wt_1 (List.mem_of_getElem? (i := 184) rfl), rfl⟩
theorem wq1_185 : Jvm.Cond.instanceMethod ({ cls := "NoticeBoxes$Past", name := "<init>", desc := "()V" } : Jvm.MethodName) ∈ wsA := List.mem_filter.mpr ⟨wt_1 (List.mem_of_getElem? (i := 185) rfl), rfl⟩
theorem wq1_186 : Jvm.Cond.code ({ cls := "NoticeBoxes$Past", name := "<init>", desc := "()V" } : Jvm.MethodName) prog_9_method_1_code (2 : Nat) (Option.none : Option Jvm.ClassFile.FieldType) ∈ wsA := List.mem_filter.mpr ⟨wt_1 (List.mem_of_getElem? (i := 186) rfl), rfl⟩
theorem wq1_187 : Jvm.Cond.methodLink "NoticeBoxes$Past" (3 : Nat) ({ cls := "java/lang/Object", name := "<init>", desc := "()V" } : Jvm.MethodName) ∈ wsA := List.mem_filter.mpr ⟨wt_1 (List.mem_of_getElem? (i := 187) rfl), rfl⟩
theorem wq1_188 : Jvm.Cond.classLink "NoticeBoxes$Past" (9 : Nat) "NoticeBoxes$State" ∈ wsA := List.mem_filter.mpr ⟨wt_1 (List.mem_of_getElem? (i := 188) rfl), rfl⟩
theorem wq1_189 : Jvm.Cond.arrayOver (Jvm.ClassFile.FieldType.object "NoticeBoxes$State") ∈ lw_tbl := wt_1 (List.mem_of_getElem? (i := 189) rfl)
theorem wq1_190 : Jvm.Cond.methodLink "NoticeBoxes$Past" (17 : Nat) ({ cls := "NoticeBoxes$State", name := "<init>", desc := "()V" } : Jvm.MethodName) ∈ wsA := List.mem_filter.mpr ⟨wt_1 (List.mem_of_getElem? (i := 190) rfl), rfl⟩
theorem wq1_191 : Jvm.Cond.fieldLink "NoticeBoxes$Past" (11 : Nat) "NoticeBoxes$Past" "ring" "[LNoticeBoxes$State;" ∈ wsA := List.mem_filter.mpr ⟨wt_1 (List.mem_of_getElem? (i := 191) rfl), rfl⟩
theorem wq1_192 : Jvm.Cond.fieldLink "NoticeBoxes$Past" (22 : Nat) "NoticeBoxes$Past" "first" "I" ∈ wsA := List.mem_filter.mpr ⟨wt_1 (List.mem_of_getElem? (i := 192) rfl), rfl⟩
theorem wq1_193 : Jvm.Cond.fieldLink "NoticeBoxes$Past" (18 : Nat) "NoticeBoxes$Past" "count" "I" ∈ wsA := List.mem_filter.mpr ⟨wt_1 (List.mem_of_getElem? (i := 193) rfl), rfl⟩
theorem wq1_194 : Jvm.Cond.fieldLink "NoticeBoxes" (94 : Nat) "NoticeBoxes$Past" "count" "I" ∈ wsA := List.mem_filter.mpr ⟨wt_1 (List.mem_of_getElem? (i := 194) rfl), rfl⟩
theorem wq1_195 : Jvm.Cond.laysFinal "NoticeBoxes$Past" "NoticeBoxes$Past" "ring" "[LNoticeBoxes$State;" ∈ wsA := List.mem_filter.mpr ⟨wt_1 (List.mem_of_getElem? (i := 195) rfl), rfl⟩
theorem wq1_196 : Jvm.Cond.soleField "NoticeBoxes$Past" "ring" ∈ lw_tbl := wt_1 (List.mem_of_getElem? (i := 196) rfl)
theorem wq1_197 : Jvm.Cond.lays "NoticeBoxes$Past" "NoticeBoxes$Past" "first" "I" ∈ wsA := List.mem_filter.mpr ⟨wt_1 (List.mem_of_getElem? (i := 197) rfl), rfl⟩
theorem wq1_198 : Jvm.Cond.soleField "NoticeBoxes$Past" "first" ∈ lw_tbl := wt_1 (List.mem_of_getElem? (i := 198) rfl)
theorem wq1_199 : Jvm.Cond.lays "NoticeBoxes$Past" "NoticeBoxes$Past" "count" "I" ∈ wsA := List.mem_filter.mpr ⟨wt_1 (List.mem_of_getElem? (i := 199) rfl), rfl⟩
theorem wq1_200 : Jvm.Cond.soleField "NoticeBoxes$Past" "count" ∈ lw_tbl := wt_1 (List.mem_of_getElem? (i := 200) rfl)
theorem wq1_201 : Jvm.Cond.superclass "NoticeBoxes$Past" "java/lang/Object" ∈ lw_tbl := wt_1 (List.mem_of_getElem? (i := 201) rfl)
theorem wq1_202 : Jvm.Cond.classLink "NoticeBoxes" (37 : Nat) "NoticeBoxes$Book" ∈ wsA := List.mem_filter.mpr ⟨wt_1 (List.mem_of_getElem? (i := 202) rfl), rfl⟩
theorem wq1_203 : Jvm.Cond.instantiable "NoticeBoxes$Book" (3 : Nat) ∈ wsA := List.mem_filter.mpr ⟨wt_1 (List.mem_of_getElem? (i := 203) rfl), rfl⟩
theorem wq1_204 : Jvm.Cond.methodLinkNest "NoticeBoxes" (39 : Nat) ({ cls := "NoticeBoxes$Book", name := "<init>", desc := "()V" } : Jvm.MethodName) "NoticeBoxes" ∈ lw_tbl := wt_1 (List.mem_of_getElem? (i := 204) rfl)
theorem wq1_205 : Jvm.Cond.instanceMethod ({ cls := "NoticeBoxes$Book", name := "<init>", desc := "()V" } : Jvm.MethodName) ∈ wsA := List.mem_filter.mpr ⟨wt_1 (List.mem_of_getElem? (i := 205) rfl), rfl⟩
theorem wq1_206 : Jvm.Cond.code ({ cls := "NoticeBoxes$Book", name := "<init>", desc := "()V" } : Jvm.MethodName) prog_2_method_1_code (1 : Nat) (Option.none : Option Jvm.ClassFile.FieldType) ∈ wsA := List.mem_filter.mpr ⟨wt_1 (List.mem_of_getElem? (i := 206) rfl), rfl⟩
theorem wq1_207 : Jvm.Cond.methodLink "NoticeBoxes$Book" (3 : Nat) ({ cls := "java/lang/Object", name := "<init>", desc := "()V" } : Jvm.MethodName) ∈ wsA := List.mem_filter.mpr ⟨wt_1 (List.mem_of_getElem? (i := 207) rfl), rfl⟩
theorem wq1_208 : Jvm.Cond.fieldLink "NoticeBoxes$Book" (9 : Nat) "NoticeBoxes$Book" "clientNumbers" "[I" ∈ wsA := List.mem_filter.mpr ⟨wt_1 (List.mem_of_getElem? (i := 208) rfl), rfl⟩
theorem wq1_209 : Jvm.Cond.fieldLink "NoticeBoxes$Book" (15 : Nat) "NoticeBoxes$Book" "hads" "[I" ∈ wsA := List.mem_filter.mpr ⟨wt_1 (List.mem_of_getElem? (i := 209) rfl), rfl⟩
theorem wq1_210 : Jvm.Cond.fieldLink "NoticeBoxes$Book" (18 : Nat) "NoticeBoxes$Book" "count" "I" ∈ wsA := List.mem_filter.mpr ⟨wt_1 (List.mem_of_getElem? (i := 210) rfl), rfl⟩
theorem wq1_211 : Jvm.Cond.fieldLink "NoticeBoxes" (88 : Nat) "NoticeBoxes$Book" "count" "I" ∈ wsA := List.mem_filter.mpr ⟨wt_1 (List.mem_of_getElem? (i := 211) rfl), rfl⟩
theorem wq1_212 : Jvm.Cond.laysFinal "NoticeBoxes$Book" "NoticeBoxes$Book" "clientNumbers" "[I" ∈ wsA := List.mem_filter.mpr ⟨wt_1 (List.mem_of_getElem? (i := 212) rfl), rfl⟩
theorem wq1_213 : Jvm.Cond.soleField "NoticeBoxes$Book" "clientNumbers" ∈ lw_tbl := wt_1 (List.mem_of_getElem? (i := 213) rfl)
theorem wq1_214 : Jvm.Cond.laysFinal "NoticeBoxes$Book" "NoticeBoxes$Book" "hads" "[I" ∈ wsA := List.mem_filter.mpr ⟨wt_1 (List.mem_of_getElem? (i := 214) rfl), rfl⟩
theorem wq1_215 : Jvm.Cond.soleField "NoticeBoxes$Book" "hads" ∈ lw_tbl := wt_1 (List.mem_of_getElem? (i := 215) rfl)
theorem wq1_216 : Jvm.Cond.lays "NoticeBoxes$Book" "NoticeBoxes$Book" "count" "I" ∈ wsA := List.mem_filter.mpr ⟨wt_1 (List.mem_of_getElem? (i := 216) rfl), rfl⟩
theorem wq1_217 : Jvm.Cond.soleField "NoticeBoxes$Book" "count" ∈ lw_tbl := wt_1 (List.mem_of_getElem? (i := 217) rfl)
theorem wq1_218 : Jvm.Cond.superclass "NoticeBoxes$Book" "java/lang/Object" ∈ lw_tbl := wt_1 (List.mem_of_getElem? (i := 218) rfl)
theorem wq1_219 : Jvm.Cond.classLink "NoticeBoxes" (44 : Nat) "NoticeBoxes$Draws" ∈ wsA := List.mem_filter.mpr ⟨wt_1 (List.mem_of_getElem? (i := 219) rfl), rfl⟩
theorem wq1_220 : Jvm.Cond.instantiable "NoticeBoxes$Draws" (1 : Nat) ∈ wsA := List.mem_filter.mpr ⟨wt_1 (List.mem_of_getElem? (i := 220) rfl), rfl⟩
theorem wq1_221 : Jvm.Cond.methodLinkNest "NoticeBoxes" (46 : Nat) ({ cls := "NoticeBoxes$Draws", name := "<init>", desc := "()V" } : Jvm.MethodName) "NoticeBoxes" ∈ lw_tbl := wt_1 (List.mem_of_getElem? (i := 221) rfl)
theorem wq1_222 : Jvm.Cond.instanceMethod ({ cls := "NoticeBoxes$Draws", name := "<init>", desc := "()V" } : Jvm.MethodName) ∈ wsA := List.mem_filter.mpr ⟨wt_1 (List.mem_of_getElem? (i := 222) rfl), rfl⟩
theorem wq1_223 : Jvm.Cond.code ({ cls := "NoticeBoxes$Draws", name := "<init>", desc := "()V" } : Jvm.MethodName) prog_6_method_1_code (1 : Nat) (Option.none : Option Jvm.ClassFile.FieldType) ∈ wsA := List.mem_filter.mpr ⟨wt_1 (List.mem_of_getElem? (i := 223) rfl), rfl⟩
theorem wq1_224 : Jvm.Cond.methodLink "NoticeBoxes$Draws" (3 : Nat) ({ cls := "java/lang/Object", name := "<init>", desc := "()V" } : Jvm.MethodName) ∈ wsA := List.mem_filter.mpr ⟨wt_1 (List.mem_of_getElem? (i := 224) rfl), rfl⟩
theorem wq1_225 : Jvm.Cond.fieldLink "NoticeBoxes$Draws" (9 : Nat) "NoticeBoxes$Draws" "value" "I" ∈ wsA := List.mem_filter.mpr ⟨wt_1 (List.mem_of_getElem? (i := 225) rfl), rfl⟩
theorem wq1_226 : Jvm.Cond.fieldLink "NoticeBoxes$Image" (20 : Nat) "NoticeBoxes$Draws" "value" "I" ∈ wsA := List.mem_filter.mpr ⟨wt_1 (List.mem_of_getElem? (i := 226) rfl), rfl⟩
theorem wq1_227 : Jvm.Cond.fieldLink "NoticeBoxes" (95 : Nat) "NoticeBoxes$Draws" "value" "I" ∈ wsA := List.mem_filter.mpr ⟨wt_1 (List.mem_of_getElem? (i := 227) rfl), rfl⟩
theorem wq1_228 : Jvm.Cond.lays "NoticeBoxes$Draws" "NoticeBoxes$Draws" "value" "I" ∈ wsA := List.mem_filter.mpr ⟨wt_1 (List.mem_of_getElem? (i := 228) rfl), rfl⟩
theorem wq1_229 : Jvm.Cond.soleField "NoticeBoxes$Draws" "value" ∈ lw_tbl := wt_1 (List.mem_of_getElem? (i := 229) rfl)
theorem wq1_230 : Jvm.Cond.superclass "NoticeBoxes$Draws" "java/lang/Object" ∈ lw_tbl := wt_1 (List.mem_of_getElem? (i := 230) rfl)
theorem wq1_231 : Jvm.Cond.classLink "NoticeBoxes" (51 : Nat) "NoticeBoxes$Image" ∈ wsA := List.mem_filter.mpr ⟨wt_1 (List.mem_of_getElem? (i := 231) rfl), rfl⟩
theorem wq1_232 : Jvm.Cond.arrayOver (Jvm.ClassFile.FieldType.object "NoticeBoxes$Image") ∈ lw_tbl := wt_1 (List.mem_of_getElem? (i := 232) rfl)
theorem wq1_233 : Jvm.Cond.instantiable "NoticeBoxes$Image" (3 : Nat) ∈ wsA := List.mem_filter.mpr ⟨wt_1 (List.mem_of_getElem? (i := 233) rfl), rfl⟩
theorem wq1_234 : Jvm.Cond.methodLinkNest "NoticeBoxes" (57 : Nat) ({ cls := "NoticeBoxes$Image", name := "<init>", desc := "()V" } : Jvm.MethodName) "NoticeBoxes" ∈ lw_tbl := wt_1 (List.mem_of_getElem? (i := 234) rfl)
theorem wq1_235 : Jvm.Cond.instanceMethod ({ cls := "NoticeBoxes$Image", name := "<init>", desc := "()V" } : Jvm.MethodName) ∈ wsA := List.mem_filter.mpr ⟨wt_1 (List.mem_of_getElem? (i := 235) rfl), rfl⟩
theorem wq1_236 : Jvm.Cond.code ({ cls := "NoticeBoxes$Image", name := "<init>", desc := "()V" } : Jvm.MethodName) prog_7_method_1_code (1 : Nat) (Option.none : Option Jvm.ClassFile.FieldType) ∈ wsA := List.mem_filter.mpr ⟨wt_1 (List.mem_of_getElem? (i := 236) rfl), rfl⟩
theorem wq1_237 : Jvm.Cond.methodLink "NoticeBoxes$Image" (1 : Nat) ({ cls := "java/lang/Object", name := "<init>", desc := "()V" } : Jvm.MethodName) ∈ wsA := List.mem_filter.mpr ⟨wt_1 (List.mem_of_getElem? (i := 237) rfl), rfl⟩
theorem wq1_238 : Jvm.Cond.classLink "NoticeBoxes$Image" (7 : Nat) "NoticeBoxes$State" ∈ wsA := List.mem_filter.mpr ⟨wt_1 (List.mem_of_getElem? (i := 238) rfl), rfl⟩
theorem wq1_239 : Jvm.Cond.methodLink "NoticeBoxes$Image" (9 : Nat) ({ cls := "NoticeBoxes$State", name := "<init>", desc := "()V" } : Jvm.MethodName) ∈ wsA := List.mem_filter.mpr ⟨wt_1 (List.mem_of_getElem? (i := 239) rfl), rfl⟩
theorem wq2_0 : Jvm.Cond.fieldLink "NoticeBoxes$Image" (10 : Nat) "NoticeBoxes$Image" "state" "LNoticeBoxes$State;" ∈ wsA := List.mem_filter.mpr ⟨wt_2 (List.mem_of_getElem? (i := 0) rfl), rfl⟩
theorem wq2_1 : Jvm.Cond.fieldLink "NoticeBoxes$Image" (26 : Nat) "NoticeBoxes$Image" "seedValue" "I" ∈ wsA := List.mem_filter.mpr ⟨wt_2 (List.mem_of_getElem? (i := 1) rfl), rfl⟩
theorem wq2_2 : Jvm.Cond.fieldLink "NoticeBoxes$Image" (29 : Nat) "NoticeBoxes$Image" "taken" "Z" ∈ wsA := List.mem_filter.mpr ⟨wt_2 (List.mem_of_getElem? (i := 2) rfl), rfl⟩
theorem wq2_3 : Jvm.Cond.fieldLink "NoticeBoxes" (265 : Nat) "NoticeBoxes$Image" "taken" "Z" ∈ wsA := List.mem_filter.mpr ⟨wt_2 (List.mem_of_getElem? (i := 3) rfl), rfl⟩
theorem wq2_4 : Jvm.Cond.laysFinal "NoticeBoxes$Image" "NoticeBoxes$Image" "state" "LNoticeBoxes$State;" ∈ wsA := List.mem_filter.mpr ⟨wt_2 (List.mem_of_getElem? (i := 4) rfl), rfl⟩
theorem wq2_5 : Jvm.Cond.soleField "NoticeBoxes$Image" "state" ∈ lw_tbl := wt_2 (List.mem_of_getElem? (i := 5) rfl)
theorem wq2_6 : Jvm.Cond.lays "NoticeBoxes$Image" "NoticeBoxes$Image" "seedValue" "I" ∈ wsA := List.mem_filter.mpr ⟨wt_2 (List.mem_of_getElem? (i := 6) rfl), rfl⟩
theorem wq2_7 : Jvm.Cond.soleField "NoticeBoxes$Image" "seedValue" ∈ lw_tbl := wt_2 (List.mem_of_getElem? (i := 7) rfl)
theorem wq2_8 : Jvm.Cond.lays "NoticeBoxes$Image" "NoticeBoxes$Image" "taken" "Z" ∈ wsA := List.mem_filter.mpr ⟨wt_2 (List.mem_of_getElem? (i := 8) rfl), rfl⟩
theorem wq2_9 : Jvm.Cond.soleField "NoticeBoxes$Image" "taken" ∈ lw_tbl := wt_2 (List.mem_of_getElem? (i := 9) rfl)
theorem wq2_10 : Jvm.Cond.superclass "NoticeBoxes$Image" "java/lang/Object" ∈ lw_tbl := wt_2 (List.mem_of_getElem? (i := 10) rfl)
theorem wq2_11 : Jvm.Cond.fieldLink "NoticeBoxes" (10 : Nat) "NoticeBoxes" "now" "LNoticeBoxes$State;" ∈ wsA := List.mem_filter.mpr ⟨wt_2 (List.mem_of_getElem? (i := 11) rfl), rfl⟩
theorem wq2_12 : Jvm.Cond.fieldLink "NoticeBoxes" (19 : Nat) "NoticeBoxes" "tellings" "LNoticeBoxes$Tellings;" ∈ wsA := List.mem_filter.mpr ⟨wt_2 (List.mem_of_getElem? (i := 12) rfl), rfl⟩
theorem wq2_13 : Jvm.Cond.fieldLink "NoticeBoxes" (26 : Nat) "NoticeBoxes" "journey" "LNoticeBoxes$Journey;" ∈ wsA := List.mem_filter.mpr ⟨wt_2 (List.mem_of_getElem? (i := 13) rfl), rfl⟩
theorem wq2_14 : Jvm.Cond.fieldLink "NoticeBoxes" (33 : Nat) "NoticeBoxes" "past" "LNoticeBoxes$Past;" ∈ wsA := List.mem_filter.mpr ⟨wt_2 (List.mem_of_getElem? (i := 14) rfl), rfl⟩
theorem wq2_15 : Jvm.Cond.fieldLink "NoticeBoxes" (40 : Nat) "NoticeBoxes" "book" "LNoticeBoxes$Book;" ∈ wsA := List.mem_filter.mpr ⟨wt_2 (List.mem_of_getElem? (i := 15) rfl), rfl⟩
theorem wq2_16 : Jvm.Cond.fieldLink "NoticeBoxes" (47 : Nat) "NoticeBoxes" "draws" "LNoticeBoxes$Draws;" ∈ wsA := List.mem_filter.mpr ⟨wt_2 (List.mem_of_getElem? (i := 16) rfl), rfl⟩
theorem wq2_17 : Jvm.Cond.fieldLink "NoticeBoxes" (53 : Nat) "NoticeBoxes" "images" "[LNoticeBoxes$Image;" ∈ wsA := List.mem_filter.mpr ⟨wt_2 (List.mem_of_getElem? (i := 17) rfl), rfl⟩
theorem wq2_18 : Jvm.Cond.laysFinal "NoticeBoxes" "NoticeBoxes" "now" "LNoticeBoxes$State;" ∈ wsA := List.mem_filter.mpr ⟨wt_2 (List.mem_of_getElem? (i := 18) rfl), rfl⟩
theorem wq2_19 : Jvm.Cond.soleField "NoticeBoxes" "now" ∈ lw_tbl := wt_2 (List.mem_of_getElem? (i := 19) rfl)
theorem wq2_20 : Jvm.Cond.laysFinal "NoticeBoxes" "NoticeBoxes" "tellings" "LNoticeBoxes$Tellings;" ∈ wsA := List.mem_filter.mpr ⟨wt_2 (List.mem_of_getElem? (i := 20) rfl), rfl⟩
theorem wq2_21 : Jvm.Cond.soleField "NoticeBoxes" "tellings" ∈ lw_tbl := wt_2 (List.mem_of_getElem? (i := 21) rfl)
theorem wq2_22 : Jvm.Cond.laysFinal "NoticeBoxes" "NoticeBoxes" "journey" "LNoticeBoxes$Journey;" ∈ wsA := List.mem_filter.mpr ⟨wt_2 (List.mem_of_getElem? (i := 22) rfl), rfl⟩
theorem wq2_23 : Jvm.Cond.soleField "NoticeBoxes" "journey" ∈ lw_tbl := wt_2 (List.mem_of_getElem? (i := 23) rfl)
theorem wq2_24 : Jvm.Cond.laysFinal "NoticeBoxes" "NoticeBoxes" "past" "LNoticeBoxes$Past;" ∈ wsA := List.mem_filter.mpr ⟨wt_2 (List.mem_of_getElem? (i := 24) rfl), rfl⟩
theorem wq2_25 : Jvm.Cond.soleField "NoticeBoxes" "past" ∈ lw_tbl := wt_2 (List.mem_of_getElem? (i := 25) rfl)
theorem wq2_26 : Jvm.Cond.laysFinal "NoticeBoxes" "NoticeBoxes" "book" "LNoticeBoxes$Book;" ∈ wsA := List.mem_filter.mpr ⟨wt_2 (List.mem_of_getElem? (i := 26) rfl), rfl⟩
theorem wq2_27 : Jvm.Cond.soleField "NoticeBoxes" "book" ∈ lw_tbl := wt_2 (List.mem_of_getElem? (i := 27) rfl)
theorem wq2_28 : Jvm.Cond.laysFinal "NoticeBoxes" "NoticeBoxes" "draws" "LNoticeBoxes$Draws;" ∈ wsA := List.mem_filter.mpr ⟨wt_2 (List.mem_of_getElem? (i := 28) rfl), rfl⟩
theorem wq2_29 : Jvm.Cond.soleField "NoticeBoxes" "draws" ∈ lw_tbl := wt_2 (List.mem_of_getElem? (i := 29) rfl)
theorem wq2_30 : Jvm.Cond.laysFinal "NoticeBoxes" "NoticeBoxes" "images" "[LNoticeBoxes$Image;" ∈ wsA := List.mem_filter.mpr ⟨wt_2 (List.mem_of_getElem? (i := 30) rfl), rfl⟩
theorem wq2_31 : Jvm.Cond.soleField "NoticeBoxes" "images" ∈ lw_tbl := wt_2 (List.mem_of_getElem? (i := 31) rfl)
theorem wq2_32 : Jvm.Cond.superclass "NoticeBoxes" "java/lang/Object" ∈ lw_tbl := wt_2 (List.mem_of_getElem? (i := 32) rfl)
theorem wq2_33 : Jvm.Cond.methodLink "NoticeBoxesLaw" (13 : Nat) ({ cls := "NoticeBoxes", name := "told", desc := "(I)I" } : Jvm.MethodName) ∈ wsA := List.mem_filter.mpr ⟨wt_2 (List.mem_of_getElem? (i := 33) rfl), rfl⟩
theorem wq2_34 : Jvm.Cond.instanceMethod ({ cls := "NoticeBoxes", name := "told", desc := "(I)I" } : Jvm.MethodName) ∈ wsA := List.mem_filter.mpr ⟨wt_2 (List.mem_of_getElem? (i := 34) rfl), rfl⟩
theorem wq2_35 : Jvm.Cond.selects "NoticeBoxes" ({ cls := "NoticeBoxes", name := "told", desc := "(I)I" } : Jvm.MethodName) ({ cls := "NoticeBoxes", name := "told", desc := "(I)I" } : Jvm.MethodName) ∈ wsA := List.mem_filter.mpr ⟨wt_2 (List.mem_of_getElem? (i := 35) rfl), rfl⟩
theorem wq2_36 : Jvm.Cond.code ({ cls := "NoticeBoxes", name := "told", desc := "(I)I" } : Jvm.MethodName) prog_1_method_2_code (2 : Nat) (Option.some Jvm.ClassFile.FieldType.int) ∈ wsA := List.mem_filter.mpr ⟨wt_2 (List.mem_of_getElem? (i := 36) rfl), rfl⟩
theorem wq2_37 : Jvm.Cond.methodLink "NoticeBoxes" (74 : Nat) ({ cls := "NoticeBoxes$Tellings", name := "refresh", desc := "(LNoticeBoxes$State;)V" } : Jvm.MethodName) ∈ wsA := List.mem_filter.mpr ⟨wt_2 (List.mem_of_getElem? (i := 37) rfl), rfl⟩
theorem wq2_38 : Jvm.Cond.instanceMethod ({ cls := "NoticeBoxes$Tellings", name := "refresh", desc := "(LNoticeBoxes$State;)V" } : Jvm.MethodName) ∈ wsA := List.mem_filter.mpr ⟨wt_2 (List.mem_of_getElem? (i := 38) rfl), rfl⟩
theorem wq2_39 : Jvm.Cond.selects "NoticeBoxes$Tellings" ({ cls := "NoticeBoxes$Tellings", name := "refresh", desc := "(LNoticeBoxes$State;)V" } : Jvm.MethodName) ({ cls := "NoticeBoxes$Tellings", name := "refresh", desc := "(LNoticeBoxes$State;)V" } : Jvm.MethodName) ∈ wsA := List.mem_filter.mpr ⟨wt_2 (List.mem_of_getElem? (i := 39) rfl), rfl⟩
theorem wq2_40 : Jvm.Cond.code ({ cls := "NoticeBoxes$Tellings", name := "refresh", desc := "(LNoticeBoxes$State;)V" } : Jvm.MethodName) prog_11_method_5_code (3 : Nat) (Option.none : Option Jvm.ClassFile.FieldType) ∈ wsA := List.mem_filter.mpr ⟨wt_2 (List.mem_of_getElem? (i := 40) rfl), rfl⟩
theorem wq2_41 : Jvm.Cond.methodLink "NoticeBoxes$Tellings" (38 : Nat) ({ cls := "NoticeBoxes$Tellings", name := "gather", desc := "(LNoticeBoxes$State;II)V" } : Jvm.MethodName) ∈ wsA := List.mem_filter.mpr ⟨wt_2 (List.mem_of_getElem? (i := 41) rfl), rfl⟩
theorem wq2_42 : Jvm.Cond.privateMethod ({ cls := "NoticeBoxes$Tellings", name := "gather", desc := "(LNoticeBoxes$State;II)V" } : Jvm.MethodName) ∈ lw_tbl := wt_2 (List.mem_of_getElem? (i := 42) rfl)
theorem wq2_43 : Jvm.Cond.instanceMethod ({ cls := "NoticeBoxes$Tellings", name := "gather", desc := "(LNoticeBoxes$State;II)V" } : Jvm.MethodName) ∈ wsA := List.mem_filter.mpr ⟨wt_2 (List.mem_of_getElem? (i := 43) rfl), rfl⟩
theorem wq2_44 : Jvm.Cond.code ({ cls := "NoticeBoxes$Tellings", name := "gather", desc := "(LNoticeBoxes$State;II)V" } : Jvm.MethodName) prog_11_method_6_code (9 : Nat) (Option.none : Option Jvm.ClassFile.FieldType) ∈ wsA := List.mem_filter.mpr ⟨wt_2 (List.mem_of_getElem? (i := 44) rfl), rfl⟩
theorem wq2_45 : Jvm.Cond.methodLink "NoticeBoxes$Tellings" (42 : Nat) ({ cls := "NoticeBoxes$Tellings", name := "between", desc := "(LNoticeBoxes$State;II)LNoticeBoxes$BoxList;" } : Jvm.MethodName) ∈ wsA := List.mem_filter.mpr ⟨wt_2 (List.mem_of_getElem? (i := 45) rfl), rfl⟩
theorem wq2_46 : Jvm.Cond.instanceMethod ({ cls := "NoticeBoxes$Tellings", name := "between", desc := "(LNoticeBoxes$State;II)LNoticeBoxes$BoxList;" } : Jvm.MethodName) ∈ wsA := List.mem_filter.mpr ⟨wt_2 (List.mem_of_getElem? (i := 46) rfl), rfl⟩
theorem wq2_47 : Jvm.Cond.selects "NoticeBoxes$Tellings" ({ cls := "NoticeBoxes$Tellings", name := "between", desc := "(LNoticeBoxes$State;II)LNoticeBoxes$BoxList;" } : Jvm.MethodName) ({ cls := "NoticeBoxes$Tellings", name := "between", desc := "(LNoticeBoxes$State;II)LNoticeBoxes$BoxList;" } : Jvm.MethodName) ∈ wsA := List.mem_filter.mpr ⟨wt_2 (List.mem_of_getElem? (i := 47) rfl), rfl⟩
theorem wq2_48 : Jvm.Cond.code ({ cls := "NoticeBoxes$Tellings", name := "between", desc := "(LNoticeBoxes$State;II)LNoticeBoxes$BoxList;" } : Jvm.MethodName) prog_11_method_3_code (4 : Nat) (Option.some (Jvm.ClassFile.FieldType.object "NoticeBoxes$BoxList")) ∈ wsA := List.mem_filter.mpr ⟨wt_2 (List.mem_of_getElem? (i := 48) rfl), rfl⟩
theorem wq2_49 : Jvm.Cond.methodLink "NoticeBoxes$Tellings" (46 : Nat) ({ cls := "NoticeBoxes$State", name := "clientsHomeAt", desc := "(I)I" } : Jvm.MethodName) ∈ wsA := List.mem_filter.mpr ⟨wt_2 (List.mem_of_getElem? (i := 49) rfl), rfl⟩
theorem wq2_50 : Jvm.Cond.instanceMethod ({ cls := "NoticeBoxes$State", name := "clientsHomeAt", desc := "(I)I" } : Jvm.MethodName) ∈ wsA := List.mem_filter.mpr ⟨wt_2 (List.mem_of_getElem? (i := 50) rfl), rfl⟩
theorem wq2_51 : Jvm.Cond.selects "NoticeBoxes$State" ({ cls := "NoticeBoxes$State", name := "clientsHomeAt", desc := "(I)I" } : Jvm.MethodName) ({ cls := "NoticeBoxes$State", name := "clientsHomeAt", desc := "(I)I" } : Jvm.MethodName) ∈ wsA := List.mem_filter.mpr ⟨wt_2 (List.mem_of_getElem? (i := 51) rfl), rfl⟩
theorem wq2_52 : Jvm.Cond.code ({ cls := "NoticeBoxes$State", name := "clientsHomeAt", desc := "(I)I" } : Jvm.MethodName) prog_10_method_8_code (4 : Nat) (Option.some Jvm.ClassFile.FieldType.int) ∈ wsA := List.mem_filter.mpr ⟨wt_2 (List.mem_of_getElem? (i := 52) rfl), rfl⟩
theorem wq2_53 : Jvm.Cond.methodLink "NoticeBoxes$Tellings" (50 : Nat) ({ cls := "NoticeBoxes$State", name := "wishesOf", desc := "(I)I" } : Jvm.MethodName) ∈ wsA := List.mem_filter.mpr ⟨wt_2 (List.mem_of_getElem? (i := 53) rfl), rfl⟩
theorem wq2_54 : Jvm.Cond.instanceMethod ({ cls := "NoticeBoxes$State", name := "wishesOf", desc := "(I)I" } : Jvm.MethodName) ∈ wsA := List.mem_filter.mpr ⟨wt_2 (List.mem_of_getElem? (i := 54) rfl), rfl⟩
theorem wq2_55 : Jvm.Cond.selects "NoticeBoxes$State" ({ cls := "NoticeBoxes$State", name := "wishesOf", desc := "(I)I" } : Jvm.MethodName) ({ cls := "NoticeBoxes$State", name := "wishesOf", desc := "(I)I" } : Jvm.MethodName) ∈ wsA := List.mem_filter.mpr ⟨wt_2 (List.mem_of_getElem? (i := 55) rfl), rfl⟩
theorem wq2_56 : Jvm.Cond.code ({ cls := "NoticeBoxes$State", name := "wishesOf", desc := "(I)I" } : Jvm.MethodName) prog_10_method_9_code (4 : Nat) (Option.some Jvm.ClassFile.FieldType.int) ∈ wsA := List.mem_filter.mpr ⟨wt_2 (List.mem_of_getElem? (i := 56) rfl), rfl⟩
theorem wq2_57 : Jvm.Cond.methodLinkNest "NoticeBoxes$State" (75 : Nat) ({ cls := "NoticeBoxes", name := "holds", desc := "(II)Z" } : Jvm.MethodName) "NoticeBoxes" ∈ lw_tbl := wt_2 (List.mem_of_getElem? (i := 57) rfl)
theorem wq2_58 : Jvm.Cond.static ({ cls := "NoticeBoxes", name := "holds", desc := "(II)Z" } : Jvm.MethodName) ∈ wsA := List.mem_filter.mpr ⟨wt_2 (List.mem_of_getElem? (i := 58) rfl), rfl⟩
theorem wq2_59 : Jvm.Cond.code ({ cls := "NoticeBoxes", name := "holds", desc := "(II)Z" } : Jvm.MethodName) prog_1_method_28_code (2 : Nat) (Option.some Jvm.ClassFile.FieldType.boolean) ∈ wsA := List.mem_filter.mpr ⟨wt_2 (List.mem_of_getElem? (i := 59) rfl), rfl⟩
theorem wq2_60 : Jvm.Cond.methodLinkNest "NoticeBoxes$Tellings" (56 : Nat) ({ cls := "NoticeBoxes", name := "holds", desc := "(II)Z" } : Jvm.MethodName) "NoticeBoxes" ∈ lw_tbl := wt_2 (List.mem_of_getElem? (i := 60) rfl)
theorem wq2_61 : Jvm.Cond.methodLink "NoticeBoxes$Tellings" (63 : Nat) ({ cls := "NoticeBoxes$BoxList", name := "add", desc := "(I)V" } : Jvm.MethodName) ∈ wsA := List.mem_filter.mpr ⟨wt_2 (List.mem_of_getElem? (i := 61) rfl), rfl⟩
theorem wq2_62 : Jvm.Cond.instanceMethod ({ cls := "NoticeBoxes$BoxList", name := "add", desc := "(I)V" } : Jvm.MethodName) ∈ wsA := List.mem_filter.mpr ⟨wt_2 (List.mem_of_getElem? (i := 62) rfl), rfl⟩
theorem wq2_63 : Jvm.Cond.selects "NoticeBoxes$BoxList" ({ cls := "NoticeBoxes$BoxList", name := "add", desc := "(I)V" } : Jvm.MethodName) ({ cls := "NoticeBoxes$BoxList", name := "add", desc := "(I)V" } : Jvm.MethodName) ∈ wsA := List.mem_filter.mpr ⟨wt_2 (List.mem_of_getElem? (i := 63) rfl), rfl⟩
theorem wq2_64 : Jvm.Cond.code ({ cls := "NoticeBoxes$BoxList", name := "add", desc := "(I)V" } : Jvm.MethodName) prog_4_method_3_code (2 : Nat) (Option.none : Option Jvm.ClassFile.FieldType) ∈ wsA := List.mem_filter.mpr ⟨wt_2 (List.mem_of_getElem? (i := 64) rfl), rfl⟩
theorem wq2_65 : Jvm.Cond.methodLink "NoticeBoxes$BoxList" (25 : Nat) ({ cls := "NoticeBoxes$BoxList", name := "covers", desc := "(I)Z" } : Jvm.MethodName) ∈ wsA := List.mem_filter.mpr ⟨wt_2 (List.mem_of_getElem? (i := 65) rfl), rfl⟩
theorem wq2_66 : Jvm.Cond.instanceMethod ({ cls := "NoticeBoxes$BoxList", name := "covers", desc := "(I)Z" } : Jvm.MethodName) ∈ wsA := List.mem_filter.mpr ⟨wt_2 (List.mem_of_getElem? (i := 66) rfl), rfl⟩
theorem wq2_67 : Jvm.Cond.selects "NoticeBoxes$BoxList" ({ cls := "NoticeBoxes$BoxList", name := "covers", desc := "(I)Z" } : Jvm.MethodName) ({ cls := "NoticeBoxes$BoxList", name := "covers", desc := "(I)Z" } : Jvm.MethodName) ∈ wsA := List.mem_filter.mpr ⟨wt_2 (List.mem_of_getElem? (i := 67) rfl), rfl⟩
theorem wq2_68 : Jvm.Cond.code ({ cls := "NoticeBoxes$BoxList", name := "covers", desc := "(I)Z" } : Jvm.MethodName) prog_4_method_2_code (3 : Nat) (Option.some Jvm.ClassFile.FieldType.boolean) ∈ wsA := List.mem_filter.mpr ⟨wt_2 (List.mem_of_getElem? (i := 68) rfl), rfl⟩
theorem wq2_69 : Jvm.Cond.methodLink "NoticeBoxes$BoxList" (19 : Nat) ({ cls := "NoticeBoxes$Box", name := "covers", desc := "(II)Z" } : Jvm.MethodName) ∈ wsA := List.mem_filter.mpr ⟨wt_2 (List.mem_of_getElem? (i := 69) rfl), rfl⟩
theorem wq2_70 : Jvm.Cond.static ({ cls := "NoticeBoxes$Box", name := "covers", desc := "(II)Z" } : Jvm.MethodName) ∈ wsA := List.mem_filter.mpr ⟨wt_2 (List.mem_of_getElem? (i := 70) rfl), rfl⟩
theorem wq2_71 : Jvm.Cond.code ({ cls := "NoticeBoxes$Box", name := "covers", desc := "(II)Z" } : Jvm.MethodName) prog_3_method_10_code (3 : Nat) (Option.some Jvm.ClassFile.FieldType.boolean) ∈ wsA := List.mem_filter.mpr ⟨wt_2 (List.mem_of_getElem? (i := 71) rfl), rfl⟩
theorem wq2_72 : Jvm.Cond.methodLink "NoticeBoxes$Box" (19 : Nat) ({ cls := "NoticeBoxes$Box", name := "from", desc := "(II)I" } : Jvm.MethodName) ∈ wsA := List.mem_filter.mpr ⟨wt_2 (List.mem_of_getElem? (i := 72) rfl), rfl⟩
theorem wq2_73 : Jvm.Cond.static ({ cls := "NoticeBoxes$Box", name := "from", desc := "(II)I" } : Jvm.MethodName) ∈ wsA := List.mem_filter.mpr ⟨wt_2 (List.mem_of_getElem? (i := 73) rfl), rfl⟩
theorem wq2_74 : Jvm.Cond.code ({ cls := "NoticeBoxes$Box", name := "from", desc := "(II)I" } : Jvm.MethodName) prog_3_method_6_code (2 : Nat) (Option.some Jvm.ClassFile.FieldType.int) ∈ wsA := List.mem_filter.mpr ⟨wt_2 (List.mem_of_getElem? (i := 74) rfl), rfl⟩
theorem wq2_75 : Jvm.Cond.methodLink "NoticeBoxes$Box" (15 : Nat) ({ cls := "NoticeBoxes$Box", name := "to", desc := "(II)I" } : Jvm.MethodName) ∈ wsA := List.mem_filter.mpr ⟨wt_2 (List.mem_of_getElem? (i := 75) rfl), rfl⟩
theorem wq2_76 : Jvm.Cond.static ({ cls := "NoticeBoxes$Box", name := "to", desc := "(II)I" } : Jvm.MethodName) ∈ wsA := List.mem_filter.mpr ⟨wt_2 (List.mem_of_getElem? (i := 76) rfl), rfl⟩
theorem wq2_77 : Jvm.Cond.code ({ cls := "NoticeBoxes$Box", name := "to", desc := "(II)I" } : Jvm.MethodName) prog_3_method_7_code (2 : Nat) (Option.some Jvm.ClassFile.FieldType.int) ∈ wsA := List.mem_filter.mpr ⟨wt_2 (List.mem_of_getElem? (i := 77) rfl), rfl⟩
theorem wq2_78 : Jvm.Cond.methodLink "NoticeBoxes$BoxList" (28 : Nat) ({ cls := "NoticeBoxes$BoxList", name := "removeCoveredBy", desc := "(I)V" } : Jvm.MethodName) ∈ wsA := List.mem_filter.mpr ⟨wt_2 (List.mem_of_getElem? (i := 78) rfl), rfl⟩
theorem wq2_79 : Jvm.Cond.privateMethod ({ cls := "NoticeBoxes$BoxList", name := "removeCoveredBy", desc := "(I)V" } : Jvm.MethodName) ∈ lw_tbl := wt_2 (List.mem_of_getElem? (i := 79) rfl)
theorem wq2_80 : Jvm.Cond.instanceMethod ({ cls := "NoticeBoxes$BoxList", name := "removeCoveredBy", desc := "(I)V" } : Jvm.MethodName) ∈ wsA := List.mem_filter.mpr ⟨wt_2 (List.mem_of_getElem? (i := 80) rfl), rfl⟩
theorem wq2_81 : Jvm.Cond.code ({ cls := "NoticeBoxes$BoxList", name := "removeCoveredBy", desc := "(I)V" } : Jvm.MethodName) prog_4_method_5_code (4 : Nat) (Option.none : Option Jvm.ClassFile.FieldType) ∈ wsA := List.mem_filter.mpr ⟨wt_2 (List.mem_of_getElem? (i := 81) rfl), rfl⟩
theorem wq2_82 : Jvm.Cond.methodLink "NoticeBoxes$BoxList" (32 : Nat) ({ cls := "NoticeBoxes$BoxList", name := "insert", desc := "(I)V" } : Jvm.MethodName) ∈ wsA := List.mem_filter.mpr ⟨wt_2 (List.mem_of_getElem? (i := 82) rfl), rfl⟩
theorem wq2_83 : Jvm.Cond.privateMethod ({ cls := "NoticeBoxes$BoxList", name := "insert", desc := "(I)V" } : Jvm.MethodName) ∈ lw_tbl := wt_2 (List.mem_of_getElem? (i := 83) rfl)
theorem wq2_84 : Jvm.Cond.instanceMethod ({ cls := "NoticeBoxes$BoxList", name := "insert", desc := "(I)V" } : Jvm.MethodName) ∈ wsA := List.mem_filter.mpr ⟨wt_2 (List.mem_of_getElem? (i := 84) rfl), rfl⟩
theorem wq2_85 : Jvm.Cond.code ({ cls := "NoticeBoxes$BoxList", name := "insert", desc := "(I)V" } : Jvm.MethodName) prog_4_method_6_code (3 : Nat) (Option.none : Option Jvm.ClassFile.FieldType) ∈ wsA := List.mem_filter.mpr ⟨wt_2 (List.mem_of_getElem? (i := 85) rfl), rfl⟩
theorem wq2_86 : Jvm.Cond.methodLink "NoticeBoxes$Tellings" (67 : Nat) ({ cls := "NoticeBoxes$State", name := "areNeighbours", desc := "(II)Z" } : Jvm.MethodName) ∈ wsA := List.mem_filter.mpr ⟨wt_2 (List.mem_of_getElem? (i := 86) rfl), rfl⟩
theorem wq2_87 : Jvm.Cond.instanceMethod ({ cls := "NoticeBoxes$State", name := "areNeighbours", desc := "(II)Z" } : Jvm.MethodName) ∈ wsA := List.mem_filter.mpr ⟨wt_2 (List.mem_of_getElem? (i := 87) rfl), rfl⟩
theorem wq2_88 : Jvm.Cond.selects "NoticeBoxes$State" ({ cls := "NoticeBoxes$State", name := "areNeighbours", desc := "(II)Z" } : Jvm.MethodName) ({ cls := "NoticeBoxes$State", name := "areNeighbours", desc := "(II)Z" } : Jvm.MethodName) ∈ wsA := List.mem_filter.mpr ⟨wt_2 (List.mem_of_getElem? (i := 88) rfl), rfl⟩
theorem wq2_89 : Jvm.Cond.code ({ cls := "NoticeBoxes$State", name := "areNeighbours", desc := "(II)Z" } : Jvm.MethodName) prog_10_method_6_code (3 : Nat) (Option.some Jvm.ClassFile.FieldType.boolean) ∈ wsA := List.mem_filter.mpr ⟨wt_2 (List.mem_of_getElem? (i := 89) rfl), rfl⟩
theorem wq2_90 : Jvm.Cond.methodLink "NoticeBoxes$State" (64 : Nat) ({ cls := "NoticeBoxes$State", name := "hasBroker", desc := "(I)Z" } : Jvm.MethodName) ∈ wsA := List.mem_filter.mpr ⟨wt_2 (List.mem_of_getElem? (i := 90) rfl), rfl⟩
theorem wq2_91 : Jvm.Cond.instanceMethod ({ cls := "NoticeBoxes$State", name := "hasBroker", desc := "(I)Z" } : Jvm.MethodName) ∈ wsA := List.mem_filter.mpr ⟨wt_2 (List.mem_of_getElem? (i := 91) rfl), rfl⟩
theorem wq2_92 : Jvm.Cond.selects "NoticeBoxes$State" ({ cls := "NoticeBoxes$State", name := "hasBroker", desc := "(I)Z" } : Jvm.MethodName) ({ cls := "NoticeBoxes$State", name := "hasBroker", desc := "(I)Z" } : Jvm.MethodName) ∈ wsA := List.mem_filter.mpr ⟨wt_2 (List.mem_of_getElem? (i := 92) rfl), rfl⟩
theorem wq2_93 : Jvm.Cond.code ({ cls := "NoticeBoxes$State", name := "hasBroker", desc := "(I)Z" } : Jvm.MethodName) prog_10_method_3_code (2 : Nat) (Option.some Jvm.ClassFile.FieldType.boolean) ∈ wsA := List.mem_filter.mpr ⟨wt_2 (List.mem_of_getElem? (i := 93) rfl), rfl⟩
theorem wq2_94 : Jvm.Cond.methodLinkNest "NoticeBoxes$State" (60 : Nat) ({ cls := "NoticeBoxes", name := "within", desc := "(III)Z" } : Jvm.MethodName) "NoticeBoxes" ∈ lw_tbl := wt_2 (List.mem_of_getElem? (i := 94) rfl)
theorem wq2_95 : Jvm.Cond.static ({ cls := "NoticeBoxes", name := "within", desc := "(III)Z" } : Jvm.MethodName) ∈ wsA := List.mem_filter.mpr ⟨wt_2 (List.mem_of_getElem? (i := 95) rfl), rfl⟩
theorem wq2_96 : Jvm.Cond.code ({ cls := "NoticeBoxes", name := "within", desc := "(III)Z" } : Jvm.MethodName) prog_1_method_27_code (3 : Nat) (Option.some Jvm.ClassFile.FieldType.boolean) ∈ wsA := List.mem_filter.mpr ⟨wt_2 (List.mem_of_getElem? (i := 96) rfl), rfl⟩
theorem wq2_97 : Jvm.Cond.methodLink "NoticeBoxes$Tellings" (76 : Nat) ({ cls := "NoticeBoxes$BoxList", name := "cheapestJoin", desc := "()I" } : Jvm.MethodName) ∈ wsA := List.mem_filter.mpr ⟨wt_2 (List.mem_of_getElem? (i := 97) rfl), rfl⟩
theorem wq2_98 : Jvm.Cond.instanceMethod ({ cls := "NoticeBoxes$BoxList", name := "cheapestJoin", desc := "()I" } : Jvm.MethodName) ∈ wsA := List.mem_filter.mpr ⟨wt_2 (List.mem_of_getElem? (i := 98) rfl), rfl⟩
theorem wq2_99 : Jvm.Cond.selects "NoticeBoxes$BoxList" ({ cls := "NoticeBoxes$BoxList", name := "cheapestJoin", desc := "()I" } : Jvm.MethodName) ({ cls := "NoticeBoxes$BoxList", name := "cheapestJoin", desc := "()I" } : Jvm.MethodName) ∈ wsA := List.mem_filter.mpr ⟨wt_2 (List.mem_of_getElem? (i := 99) rfl), rfl⟩
theorem wq2_100 : Jvm.Cond.code ({ cls := "NoticeBoxes$BoxList", name := "cheapestJoin", desc := "()I" } : Jvm.MethodName) prog_4_method_4_code (6 : Nat) (Option.some Jvm.ClassFile.FieldType.int) ∈ wsA := List.mem_filter.mpr ⟨wt_2 (List.mem_of_getElem? (i := 100) rfl), rfl⟩
theorem wq2_101 : Jvm.Cond.methodLink "NoticeBoxes$BoxList" (35 : Nat) ({ cls := "NoticeBoxes$Box", name := "waste", desc := "(II)I" } : Jvm.MethodName) ∈ wsA := List.mem_filter.mpr ⟨wt_2 (List.mem_of_getElem? (i := 101) rfl), rfl⟩
theorem wq2_102 : Jvm.Cond.static ({ cls := "NoticeBoxes$Box", name := "waste", desc := "(II)I" } : Jvm.MethodName) ∈ wsA := List.mem_filter.mpr ⟨wt_2 (List.mem_of_getElem? (i := 102) rfl), rfl⟩
theorem wq2_103 : Jvm.Cond.code ({ cls := "NoticeBoxes$Box", name := "waste", desc := "(II)I" } : Jvm.MethodName) prog_3_method_12_code (2 : Nat) (Option.some Jvm.ClassFile.FieldType.int) ∈ wsA := List.mem_filter.mpr ⟨wt_2 (List.mem_of_getElem? (i := 103) rfl), rfl⟩
theorem wq2_104 : Jvm.Cond.methodLink "NoticeBoxes$Box" (30 : Nat) ({ cls := "NoticeBoxes$Box", name := "joined", desc := "(II)I" } : Jvm.MethodName) ∈ wsA := List.mem_filter.mpr ⟨wt_2 (List.mem_of_getElem? (i := 104) rfl), rfl⟩
theorem wq2_105 : Jvm.Cond.static ({ cls := "NoticeBoxes$Box", name := "joined", desc := "(II)I" } : Jvm.MethodName) ∈ wsA := List.mem_filter.mpr ⟨wt_2 (List.mem_of_getElem? (i := 105) rfl), rfl⟩
theorem wq2_106 : Jvm.Cond.code ({ cls := "NoticeBoxes$Box", name := "joined", desc := "(II)I" } : Jvm.MethodName) prog_3_method_11_code (4 : Nat) (Option.some Jvm.ClassFile.FieldType.int) ∈ wsA := List.mem_filter.mpr ⟨wt_2 (List.mem_of_getElem? (i := 106) rfl), rfl⟩
theorem wq2_107 : Jvm.Cond.methodLink "NoticeBoxes$Box" (27 : Nat) ({ cls := "java/lang/Math", name := "min", desc := "(II)I" } : Jvm.MethodName) ∈ wsA := List.mem_filter.mpr ⟨wt_2 (List.mem_of_getElem? (i := 107) rfl), rfl⟩
theorem wq2_108 : Jvm.Cond.static ({ cls := "java/lang/Math", name := "min", desc := "(II)I" } : Jvm.MethodName) ∈ wsA := List.mem_filter.mpr ⟨wt_2 (List.mem_of_getElem? (i := 108) rfl), rfl⟩
theorem wq2_109 : Jvm.Cond.code ({ cls := "java/lang/Math", name := "min", desc := "(II)I" } : Jvm.MethodName) prog_15_method_69_code (2 : Nat) (Option.some Jvm.ClassFile.FieldType.int) ∈ wsA := List.mem_filter.mpr ⟨wt_2 (List.mem_of_getElem? (i := 109) rfl), rfl⟩
theorem wq2_110 : Jvm.Cond.methodLink "NoticeBoxes$Box" (22 : Nat) ({ cls := "java/lang/Math", name := "max", desc := "(II)I" } : Jvm.MethodName) ∈ wsA := List.mem_filter.mpr ⟨wt_2 (List.mem_of_getElem? (i := 110) rfl), rfl⟩
theorem wq2_111 : Jvm.Cond.static ({ cls := "java/lang/Math", name := "max", desc := "(II)I" } : Jvm.MethodName) ∈ wsA := List.mem_filter.mpr ⟨wt_2 (List.mem_of_getElem? (i := 111) rfl), rfl⟩
theorem wq2_112 : Jvm.Cond.code ({ cls := "java/lang/Math", name := "max", desc := "(II)I" } : Jvm.MethodName) prog_15_method_65_code (2 : Nat) (Option.some Jvm.ClassFile.FieldType.int) ∈ wsA := List.mem_filter.mpr ⟨wt_2 (List.mem_of_getElem? (i := 112) rfl), rfl⟩
theorem wq2_113 : Jvm.Cond.methodLink "NoticeBoxes$Box" (9 : Nat) ({ cls := "NoticeBoxes$Box", name := "withBounds", desc := "(III)I" } : Jvm.MethodName) ∈ wsA := List.mem_filter.mpr ⟨wt_2 (List.mem_of_getElem? (i := 113) rfl), rfl⟩
theorem wq2_114 : Jvm.Cond.static ({ cls := "NoticeBoxes$Box", name := "withBounds", desc := "(III)I" } : Jvm.MethodName) ∈ wsA := List.mem_filter.mpr ⟨wt_2 (List.mem_of_getElem? (i := 114) rfl), rfl⟩
theorem wq2_115 : Jvm.Cond.code ({ cls := "NoticeBoxes$Box", name := "withBounds", desc := "(III)I" } : Jvm.MethodName) prog_3_method_3_code (3 : Nat) (Option.some Jvm.ClassFile.FieldType.int) ∈ wsA := List.mem_filter.mpr ⟨wt_2 (List.mem_of_getElem? (i := 115) rfl), rfl⟩
theorem wq2_116 : Jvm.Cond.methodLink "NoticeBoxes$Box" (33 : Nat) ({ cls := "NoticeBoxes$Box", name := "size", desc := "(I)I" } : Jvm.MethodName) ∈ wsA := List.mem_filter.mpr ⟨wt_2 (List.mem_of_getElem? (i := 116) rfl), rfl⟩
theorem wq2_117 : Jvm.Cond.static ({ cls := "NoticeBoxes$Box", name := "size", desc := "(I)I" } : Jvm.MethodName) ∈ wsA := List.mem_filter.mpr ⟨wt_2 (List.mem_of_getElem? (i := 117) rfl), rfl⟩
theorem wq2_118 : Jvm.Cond.code ({ cls := "NoticeBoxes$Box", name := "size", desc := "(I)I" } : Jvm.MethodName) prog_3_method_8_code (3 : Nat) (Option.some Jvm.ClassFile.FieldType.int) ∈ wsA := List.mem_filter.mpr ⟨wt_2 (List.mem_of_getElem? (i := 118) rfl), rfl⟩
theorem wq2_119 : Jvm.Cond.methodLink "NoticeBoxes$Box" (37 : Nat) ({ cls := "NoticeBoxes$Box", name := "sizeOfCommon", desc := "(II)I" } : Jvm.MethodName) ∈ wsA := List.mem_filter.mpr ⟨wt_2 (List.mem_of_getElem? (i := 119) rfl), rfl⟩
theorem wq2_120 : Jvm.Cond.static ({ cls := "NoticeBoxes$Box", name := "sizeOfCommon", desc := "(II)I" } : Jvm.MethodName) ∈ wsA := List.mem_filter.mpr ⟨wt_2 (List.mem_of_getElem? (i := 120) rfl), rfl⟩
theorem wq2_121 : Jvm.Cond.code ({ cls := "NoticeBoxes$Box", name := "sizeOfCommon", desc := "(II)I" } : Jvm.MethodName) prog_3_method_9_code (6 : Nat) (Option.some Jvm.ClassFile.FieldType.int) ∈ wsA := List.mem_filter.mpr ⟨wt_2 (List.mem_of_getElem? (i := 121) rfl), rfl⟩
theorem wq2_122 : Jvm.Cond.methodLink "NoticeBoxes$BoxList" (39 : Nat) ({ cls := "NoticeBoxes$Box", name := "joined", desc := "(II)I" } : Jvm.MethodName) ∈ wsA := List.mem_filter.mpr ⟨wt_2 (List.mem_of_getElem? (i := 122) rfl), rfl⟩
theorem wq2_123 : Jvm.Cond.methodLink "NoticeBoxes" (78 : Nat) ({ cls := "NoticeBoxes$Tellings", name := "countAll", desc := "(LNoticeBoxes$State;)I" } : Jvm.MethodName) ∈ wsA := List.mem_filter.mpr ⟨wt_2 (List.mem_of_getElem? (i := 123) rfl), rfl⟩
theorem wq2_124 : Jvm.Cond.instanceMethod ({ cls := "NoticeBoxes$Tellings", name := "countAll", desc := "(LNoticeBoxes$State;)I" } : Jvm.MethodName) ∈ wsA := List.mem_filter.mpr ⟨wt_2 (List.mem_of_getElem? (i := 124) rfl), rfl⟩
theorem wq2_125 : Jvm.Cond.selects "NoticeBoxes$Tellings" ({ cls := "NoticeBoxes$Tellings", name := "countAll", desc := "(LNoticeBoxes$State;)I" } : Jvm.MethodName) ({ cls := "NoticeBoxes$Tellings", name := "countAll", desc := "(LNoticeBoxes$State;)I" } : Jvm.MethodName) ∈ wsA := List.mem_filter.mpr ⟨wt_2 (List.mem_of_getElem? (i := 125) rfl), rfl⟩
theorem wq2_126 : Jvm.Cond.code ({ cls := "NoticeBoxes$Tellings", name := "countAll", desc := "(LNoticeBoxes$State;)I" } : Jvm.MethodName) prog_11_method_4_code (4 : Nat) (Option.some Jvm.ClassFile.FieldType.int) ∈ wsA := List.mem_filter.mpr ⟨wt_2 (List.mem_of_getElem? (i := 126) rfl), rfl⟩
theorem wq2_127 : Jvm.Cond.methodLink "NoticeBoxes" (91 : Nat) ({ cls := "NoticeBoxes$Book", name := "firstWrong", desc := "(LNoticeBoxes$State;)I" } : Jvm.MethodName) ∈ wsA := List.mem_filter.mpr ⟨wt_2 (List.mem_of_getElem? (i := 127) rfl), rfl⟩
theorem wq2_128 : Jvm.Cond.instanceMethod ({ cls := "NoticeBoxes$Book", name := "firstWrong", desc := "(LNoticeBoxes$State;)I" } : Jvm.MethodName) ∈ wsA := List.mem_filter.mpr ⟨wt_2 (List.mem_of_getElem? (i := 128) rfl), rfl⟩
theorem wq2_129 : Jvm.Cond.selects "NoticeBoxes$Book" ({ cls := "NoticeBoxes$Book", name := "firstWrong", desc := "(LNoticeBoxes$State;)I" } : Jvm.MethodName) ({ cls := "NoticeBoxes$Book", name := "firstWrong", desc := "(LNoticeBoxes$State;)I" } : Jvm.MethodName) ∈ wsA := List.mem_filter.mpr ⟨wt_2 (List.mem_of_getElem? (i := 129) rfl), rfl⟩
theorem wq2_130 : Jvm.Cond.code ({ cls := "NoticeBoxes$Book", name := "firstWrong", desc := "(LNoticeBoxes$State;)I" } : Jvm.MethodName) prog_2_method_3_code (4 : Nat) (Option.some Jvm.ClassFile.FieldType.int) ∈ wsA := List.mem_filter.mpr ⟨wt_2 (List.mem_of_getElem? (i := 130) rfl), rfl⟩
theorem wq2_131 : Jvm.Cond.methodLink "NoticeBoxes$Book" (22 : Nat) ({ cls := "NoticeBoxes$State", name := "hasClient", desc := "(I)Z" } : Jvm.MethodName) ∈ wsA := List.mem_filter.mpr ⟨wt_2 (List.mem_of_getElem? (i := 131) rfl), rfl⟩
theorem wq2_132 : Jvm.Cond.instanceMethod ({ cls := "NoticeBoxes$State", name := "hasClient", desc := "(I)Z" } : Jvm.MethodName) ∈ wsA := List.mem_filter.mpr ⟨wt_2 (List.mem_of_getElem? (i := 132) rfl), rfl⟩
theorem wq2_133 : Jvm.Cond.selects "NoticeBoxes$State" ({ cls := "NoticeBoxes$State", name := "hasClient", desc := "(I)Z" } : Jvm.MethodName) ({ cls := "NoticeBoxes$State", name := "hasClient", desc := "(I)Z" } : Jvm.MethodName) ∈ wsA := List.mem_filter.mpr ⟨wt_2 (List.mem_of_getElem? (i := 133) rfl), rfl⟩
theorem wq2_134 : Jvm.Cond.code ({ cls := "NoticeBoxes$State", name := "hasClient", desc := "(I)Z" } : Jvm.MethodName) prog_10_method_4_code (2 : Nat) (Option.some Jvm.ClassFile.FieldType.boolean) ∈ wsA := List.mem_filter.mpr ⟨wt_2 (List.mem_of_getElem? (i := 134) rfl), rfl⟩
theorem wq2_135 : Jvm.Cond.constant "NoticeBoxes" (98 : Nat) (-1000000002 : Int32) ∈ wsA := List.mem_filter.mpr ⟨wt_2 (List.mem_of_getElem? (i := 135) rfl), rfl⟩
theorem wq2_136 : Jvm.Cond.methodLink "NoticeBoxesLaw" (18 : Nat) ({ cls := "NoticeBoxes", name := "brokerAt", desc := "(II)I" } : Jvm.MethodName) ∈ wsA := List.mem_filter.mpr ⟨wt_2 (List.mem_of_getElem? (i := 136) rfl), rfl⟩
theorem wq2_137 : Jvm.Cond.instanceMethod ({ cls := "NoticeBoxes", name := "brokerAt", desc := "(II)I" } : Jvm.MethodName) ∈ wsA := List.mem_filter.mpr ⟨wt_2 (List.mem_of_getElem? (i := 137) rfl), rfl⟩
theorem wq2_138 : Jvm.Cond.selects "NoticeBoxes" ({ cls := "NoticeBoxes", name := "brokerAt", desc := "(II)I" } : Jvm.MethodName) ({ cls := "NoticeBoxes", name := "brokerAt", desc := "(II)I" } : Jvm.MethodName) ∈ wsA := List.mem_filter.mpr ⟨wt_2 (List.mem_of_getElem? (i := 138) rfl), rfl⟩
theorem wq2_139 : Jvm.Cond.code ({ cls := "NoticeBoxes", name := "brokerAt", desc := "(II)I" } : Jvm.MethodName) prog_1_method_3_code (3 : Nat) (Option.some Jvm.ClassFile.FieldType.int) ∈ wsA := List.mem_filter.mpr ⟨wt_2 (List.mem_of_getElem? (i := 139) rfl), rfl⟩
theorem wq2_140 : Jvm.Cond.methodLink "NoticeBoxes" (99 : Nat) ({ cls := "NoticeBoxes$State", name := "hasBroker", desc := "(I)Z" } : Jvm.MethodName) ∈ wsA := List.mem_filter.mpr ⟨wt_2 (List.mem_of_getElem? (i := 140) rfl), rfl⟩
theorem wq2_141 : Jvm.Cond.constant "NoticeBoxes" (103 : Nat) (-1000000001 : Int32) ∈ wsA := List.mem_filter.mpr ⟨wt_2 (List.mem_of_getElem? (i := 141) rfl), rfl⟩
theorem wq2_142 : Jvm.Cond.methodLink "NoticeBoxes" (108 : Nat) ({ cls := "NoticeBoxes$State", name := "neighboursOf", desc := "(I)I" } : Jvm.MethodName) ∈ wsA := List.mem_filter.mpr ⟨wt_2 (List.mem_of_getElem? (i := 142) rfl), rfl⟩
theorem wq2_143 : Jvm.Cond.instanceMethod ({ cls := "NoticeBoxes$State", name := "neighboursOf", desc := "(I)I" } : Jvm.MethodName) ∈ wsA := List.mem_filter.mpr ⟨wt_2 (List.mem_of_getElem? (i := 143) rfl), rfl⟩
theorem wq2_144 : Jvm.Cond.selects "NoticeBoxes$State" ({ cls := "NoticeBoxes$State", name := "neighboursOf", desc := "(I)I" } : Jvm.MethodName) ({ cls := "NoticeBoxes$State", name := "neighboursOf", desc := "(I)I" } : Jvm.MethodName) ∈ wsA := List.mem_filter.mpr ⟨wt_2 (List.mem_of_getElem? (i := 144) rfl), rfl⟩
theorem wq2_145 : Jvm.Cond.code ({ cls := "NoticeBoxes$State", name := "neighboursOf", desc := "(I)I" } : Jvm.MethodName) prog_10_method_7_code (4 : Nat) (Option.some Jvm.ClassFile.FieldType.int) ∈ wsA := List.mem_filter.mpr ⟨wt_2 (List.mem_of_getElem? (i := 145) rfl), rfl⟩
theorem wq2_146 : Jvm.Cond.methodLink "NoticeBoxes$State" (68 : Nat) ({ cls := "NoticeBoxes$State", name := "areNeighbours", desc := "(II)Z" } : Jvm.MethodName) ∈ wsA := List.mem_filter.mpr ⟨wt_2 (List.mem_of_getElem? (i := 146) rfl), rfl⟩
theorem wq2_147 : Jvm.Cond.methodLink "NoticeBoxes" (112 : Nat) ({ cls := "NoticeBoxes$State", name := "clientsHomeAt", desc := "(I)I" } : Jvm.MethodName) ∈ wsA := List.mem_filter.mpr ⟨wt_2 (List.mem_of_getElem? (i := 147) rfl), rfl⟩
theorem wq2_148 : Jvm.Cond.methodLink "NoticeBoxes" (115 : Nat) ({ cls := "NoticeBoxes$State", name := "wishesOf", desc := "(I)I" } : Jvm.MethodName) ∈ wsA := List.mem_filter.mpr ⟨wt_2 (List.mem_of_getElem? (i := 148) rfl), rfl⟩
theorem wq2_149 : Jvm.Cond.methodLink "NoticeBoxesLaw" (23 : Nat) ({ cls := "NoticeBoxes", name := "clientAt", desc := "(II)I" } : Jvm.MethodName) ∈ wsA := List.mem_filter.mpr ⟨wt_2 (List.mem_of_getElem? (i := 149) rfl), rfl⟩
theorem wq2_150 : Jvm.Cond.instanceMethod ({ cls := "NoticeBoxes", name := "clientAt", desc := "(II)I" } : Jvm.MethodName) ∈ wsA := List.mem_filter.mpr ⟨wt_2 (List.mem_of_getElem? (i := 150) rfl), rfl⟩
theorem wq2_151 : Jvm.Cond.selects "NoticeBoxes" ({ cls := "NoticeBoxes", name := "clientAt", desc := "(II)I" } : Jvm.MethodName) ({ cls := "NoticeBoxes", name := "clientAt", desc := "(II)I" } : Jvm.MethodName) ∈ wsA := List.mem_filter.mpr ⟨wt_2 (List.mem_of_getElem? (i := 151) rfl), rfl⟩
theorem wq2_152 : Jvm.Cond.code ({ cls := "NoticeBoxes", name := "clientAt", desc := "(II)I" } : Jvm.MethodName) prog_1_method_4_code (4 : Nat) (Option.some Jvm.ClassFile.FieldType.int) ∈ wsA := List.mem_filter.mpr ⟨wt_2 (List.mem_of_getElem? (i := 152) rfl), rfl⟩
theorem wq2_153 : Jvm.Cond.methodLink "NoticeBoxes" (118 : Nat) ({ cls := "NoticeBoxes$State", name := "hasClient", desc := "(I)Z" } : Jvm.MethodName) ∈ wsA := List.mem_filter.mpr ⟨wt_2 (List.mem_of_getElem? (i := 153) rfl), rfl⟩
theorem wq2_154 : Jvm.Cond.methodLink "NoticeBoxesLaw" (27 : Nat) ({ cls := "NoticeBoxes", name := "log", desc := "(II)I" } : Jvm.MethodName) ∈ wsA := List.mem_filter.mpr ⟨wt_2 (List.mem_of_getElem? (i := 154) rfl), rfl⟩
theorem wq2_155 : Jvm.Cond.instanceMethod ({ cls := "NoticeBoxes", name := "log", desc := "(II)I" } : Jvm.MethodName) ∈ wsA := List.mem_filter.mpr ⟨wt_2 (List.mem_of_getElem? (i := 155) rfl), rfl⟩
theorem wq2_156 : Jvm.Cond.selects "NoticeBoxes" ({ cls := "NoticeBoxes", name := "log", desc := "(II)I" } : Jvm.MethodName) ({ cls := "NoticeBoxes", name := "log", desc := "(II)I" } : Jvm.MethodName) ∈ wsA := List.mem_filter.mpr ⟨wt_2 (List.mem_of_getElem? (i := 156) rfl), rfl⟩
theorem wq2_157 : Jvm.Cond.code ({ cls := "NoticeBoxes", name := "log", desc := "(II)I" } : Jvm.MethodName) prog_1_method_5_code (3 : Nat) (Option.some Jvm.ClassFile.FieldType.int) ∈ wsA := List.mem_filter.mpr ⟨wt_2 (List.mem_of_getElem? (i := 157) rfl), rfl⟩
theorem wq2_158 : Jvm.Cond.methodLink "NoticeBoxes" (143 : Nat) ({ cls := "NoticeBoxes", name := "within", desc := "(III)Z" } : Jvm.MethodName) ∈ wsA := List.mem_filter.mpr ⟨wt_2 (List.mem_of_getElem? (i := 158) rfl), rfl⟩
theorem wq2_159 : Jvm.Cond.methodLink "NoticeBoxes" (147 : Nat) ({ cls := "NoticeBoxes$Client", name := "latest", desc := "(I)I" } : Jvm.MethodName) ∈ wsA := List.mem_filter.mpr ⟨wt_2 (List.mem_of_getElem? (i := 159) rfl), rfl⟩
theorem wq2_160 : Jvm.Cond.instanceMethod ({ cls := "NoticeBoxes$Client", name := "latest", desc := "(I)I" } : Jvm.MethodName) ∈ wsA := List.mem_filter.mpr ⟨wt_2 (List.mem_of_getElem? (i := 160) rfl), rfl⟩
theorem wq2_161 : Jvm.Cond.selects "NoticeBoxes$Client" ({ cls := "NoticeBoxes$Client", name := "latest", desc := "(I)I" } : Jvm.MethodName) ({ cls := "NoticeBoxes$Client", name := "latest", desc := "(I)I" } : Jvm.MethodName) ∈ wsA := List.mem_filter.mpr ⟨wt_2 (List.mem_of_getElem? (i := 161) rfl), rfl⟩
theorem wq2_162 : Jvm.Cond.code ({ cls := "NoticeBoxes$Client", name := "latest", desc := "(I)I" } : Jvm.MethodName) prog_5_method_4_code (2 : Nat) (Option.some Jvm.ClassFile.FieldType.int) ∈ wsA := List.mem_filter.mpr ⟨wt_2 (List.mem_of_getElem? (i := 162) rfl), rfl⟩
theorem wq2_163 : Jvm.Cond.methodLink "NoticeBoxesLaw" (31 : Nat) ({ cls := "NoticeBoxes", name := "wishAt", desc := "(II)I" } : Jvm.MethodName) ∈ wsA := List.mem_filter.mpr ⟨wt_2 (List.mem_of_getElem? (i := 163) rfl), rfl⟩
theorem wq2_164 : Jvm.Cond.instanceMethod ({ cls := "NoticeBoxes", name := "wishAt", desc := "(II)I" } : Jvm.MethodName) ∈ wsA := List.mem_filter.mpr ⟨wt_2 (List.mem_of_getElem? (i := 164) rfl), rfl⟩
theorem wq2_165 : Jvm.Cond.selects "NoticeBoxes" ({ cls := "NoticeBoxes", name := "wishAt", desc := "(II)I" } : Jvm.MethodName) ({ cls := "NoticeBoxes", name := "wishAt", desc := "(II)I" } : Jvm.MethodName) ∈ wsA := List.mem_filter.mpr ⟨wt_2 (List.mem_of_getElem? (i := 165) rfl), rfl⟩
theorem wq2_166 : Jvm.Cond.code ({ cls := "NoticeBoxes", name := "wishAt", desc := "(II)I" } : Jvm.MethodName) prog_1_method_6_code (3 : Nat) (Option.some Jvm.ClassFile.FieldType.int) ∈ wsA := List.mem_filter.mpr ⟨wt_2 (List.mem_of_getElem? (i := 166) rfl), rfl⟩
theorem wq2_167 : Jvm.Cond.methodLink "NoticeBoxes" (150 : Nat) ({ cls := "NoticeBoxes$State", name := "hasWish", desc := "(I)Z" } : Jvm.MethodName) ∈ wsA := List.mem_filter.mpr ⟨wt_2 (List.mem_of_getElem? (i := 167) rfl), rfl⟩
theorem wq2_168 : Jvm.Cond.instanceMethod ({ cls := "NoticeBoxes$State", name := "hasWish", desc := "(I)Z" } : Jvm.MethodName) ∈ wsA := List.mem_filter.mpr ⟨wt_2 (List.mem_of_getElem? (i := 168) rfl), rfl⟩
theorem wq2_169 : Jvm.Cond.selects "NoticeBoxes$State" ({ cls := "NoticeBoxes$State", name := "hasWish", desc := "(I)Z" } : Jvm.MethodName) ({ cls := "NoticeBoxes$State", name := "hasWish", desc := "(I)Z" } : Jvm.MethodName) ∈ wsA := List.mem_filter.mpr ⟨wt_2 (List.mem_of_getElem? (i := 169) rfl), rfl⟩
theorem wq2_170 : Jvm.Cond.code ({ cls := "NoticeBoxes$State", name := "hasWish", desc := "(I)Z" } : Jvm.MethodName) prog_10_method_5_code (2 : Nat) (Option.some Jvm.ClassFile.FieldType.boolean) ∈ wsA := List.mem_filter.mpr ⟨wt_2 (List.mem_of_getElem? (i := 170) rfl), rfl⟩
theorem wq2_171 : Jvm.Cond.methodLink "NoticeBoxes" (159 : Nat) ({ cls := "NoticeBoxes$Box", name := "bound", desc := "(II)I" } : Jvm.MethodName) ∈ wsA := List.mem_filter.mpr ⟨wt_2 (List.mem_of_getElem? (i := 171) rfl), rfl⟩
theorem wq2_172 : Jvm.Cond.static ({ cls := "NoticeBoxes$Box", name := "bound", desc := "(II)I" } : Jvm.MethodName) ∈ wsA := List.mem_filter.mpr ⟨wt_2 (List.mem_of_getElem? (i := 172) rfl), rfl⟩
theorem wq2_173 : Jvm.Cond.code ({ cls := "NoticeBoxes$Box", name := "bound", desc := "(II)I" } : Jvm.MethodName) prog_3_method_5_code (2 : Nat) (Option.some Jvm.ClassFile.FieldType.int) ∈ wsA := List.mem_filter.mpr ⟨wt_2 (List.mem_of_getElem? (i := 173) rfl), rfl⟩
theorem wq2_174 : Jvm.Cond.methodLink "NoticeBoxes" (165 : Nat) ({ cls := "NoticeBoxes$Box", name := "size", desc := "(I)I" } : Jvm.MethodName) ∈ wsA := List.mem_filter.mpr ⟨wt_2 (List.mem_of_getElem? (i := 174) rfl), rfl⟩
theorem wq2_175 : Jvm.Cond.methodLink "NoticeBoxes" (168 : Nat) ({ cls := "NoticeBoxes$State", name := "wishesCoveredBy", desc := "(I)I" } : Jvm.MethodName) ∈ wsA := List.mem_filter.mpr ⟨wt_2 (List.mem_of_getElem? (i := 175) rfl), rfl⟩
theorem wq2_176 : Jvm.Cond.instanceMethod ({ cls := "NoticeBoxes$State", name := "wishesCoveredBy", desc := "(I)I" } : Jvm.MethodName) ∈ wsA := List.mem_filter.mpr ⟨wt_2 (List.mem_of_getElem? (i := 176) rfl), rfl⟩
theorem wq2_177 : Jvm.Cond.selects "NoticeBoxes$State" ({ cls := "NoticeBoxes$State", name := "wishesCoveredBy", desc := "(I)I" } : Jvm.MethodName) ({ cls := "NoticeBoxes$State", name := "wishesCoveredBy", desc := "(I)I" } : Jvm.MethodName) ∈ wsA := List.mem_filter.mpr ⟨wt_2 (List.mem_of_getElem? (i := 177) rfl), rfl⟩
theorem wq2_178 : Jvm.Cond.code ({ cls := "NoticeBoxes$State", name := "wishesCoveredBy", desc := "(I)I" } : Jvm.MethodName) prog_10_method_10_code (4 : Nat) (Option.some Jvm.ClassFile.FieldType.int) ∈ wsA := List.mem_filter.mpr ⟨wt_2 (List.mem_of_getElem? (i := 178) rfl), rfl⟩
theorem wq2_179 : Jvm.Cond.methodLink "NoticeBoxes$State" (78 : Nat) ({ cls := "NoticeBoxes$Box", name := "covers", desc := "(II)Z" } : Jvm.MethodName) ∈ wsA := List.mem_filter.mpr ⟨wt_2 (List.mem_of_getElem? (i := 179) rfl), rfl⟩
theorem wq2_180 : Jvm.Cond.methodLink "NoticeBoxesLaw" (35 : Nat) ({ cls := "NoticeBoxes", name := "toldOn", desc := "(II)I" } : Jvm.MethodName) ∈ wsA := List.mem_filter.mpr ⟨wt_2 (List.mem_of_getElem? (i := 180) rfl), rfl⟩
theorem wq2_181 : Jvm.Cond.instanceMethod ({ cls := "NoticeBoxes", name := "toldOn", desc := "(II)I" } : Jvm.MethodName) ∈ wsA := List.mem_filter.mpr ⟨wt_2 (List.mem_of_getElem? (i := 181) rfl), rfl⟩
theorem wq2_182 : Jvm.Cond.selects "NoticeBoxes" ({ cls := "NoticeBoxes", name := "toldOn", desc := "(II)I" } : Jvm.MethodName) ({ cls := "NoticeBoxes", name := "toldOn", desc := "(II)I" } : Jvm.MethodName) ∈ wsA := List.mem_filter.mpr ⟨wt_2 (List.mem_of_getElem? (i := 182) rfl), rfl⟩
theorem wq2_183 : Jvm.Cond.code ({ cls := "NoticeBoxes", name := "toldOn", desc := "(II)I" } : Jvm.MethodName) prog_1_method_7_code (3 : Nat) (Option.some Jvm.ClassFile.FieldType.int) ∈ wsA := List.mem_filter.mpr ⟨wt_2 (List.mem_of_getElem? (i := 183) rfl), rfl⟩
theorem wq2_184 : Jvm.Cond.methodLink "NoticeBoxes" (171 : Nat) ({ cls := "NoticeBoxes$State", name := "areNeighbours", desc := "(II)Z" } : Jvm.MethodName) ∈ wsA := List.mem_filter.mpr ⟨wt_2 (List.mem_of_getElem? (i := 184) rfl), rfl⟩
theorem wq2_185 : Jvm.Cond.methodLink "NoticeBoxes" (175 : Nat) ({ cls := "NoticeBoxes$Tellings", name := "between", desc := "(LNoticeBoxes$State;II)LNoticeBoxes$BoxList;" } : Jvm.MethodName) ∈ wsA := List.mem_filter.mpr ⟨wt_2 (List.mem_of_getElem? (i := 185) rfl), rfl⟩
theorem wq2_186 : Jvm.Cond.methodLink "NoticeBoxesLaw" (39 : Nat) ({ cls := "NoticeBoxes", name := "box", desc := "(IIII)I" } : Jvm.MethodName) ∈ wsA := List.mem_filter.mpr ⟨wt_2 (List.mem_of_getElem? (i := 186) rfl), rfl⟩
theorem wq2_187 : Jvm.Cond.instanceMethod ({ cls := "NoticeBoxes", name := "box", desc := "(IIII)I" } : Jvm.MethodName) ∈ wsA := List.mem_filter.mpr ⟨wt_2 (List.mem_of_getElem? (i := 187) rfl), rfl⟩
theorem wq2_188 : Jvm.Cond.selects "NoticeBoxes" ({ cls := "NoticeBoxes", name := "box", desc := "(IIII)I" } : Jvm.MethodName) ({ cls := "NoticeBoxes", name := "box", desc := "(IIII)I" } : Jvm.MethodName) ∈ wsA := List.mem_filter.mpr ⟨wt_2 (List.mem_of_getElem? (i := 188) rfl), rfl⟩
theorem wq2_189 : Jvm.Cond.code ({ cls := "NoticeBoxes", name := "box", desc := "(IIII)I" } : Jvm.MethodName) prog_1_method_8_code (7 : Nat) (Option.some Jvm.ClassFile.FieldType.int) ∈ wsA := List.mem_filter.mpr ⟨wt_2 (List.mem_of_getElem? (i := 189) rfl), rfl⟩
theorem wq2_190 : Jvm.Cond.methodLink "NoticeBoxes" (185 : Nat) ({ cls := "NoticeBoxes$State", name := "isWished", desc := "(I)Z" } : Jvm.MethodName) ∈ wsA := List.mem_filter.mpr ⟨wt_2 (List.mem_of_getElem? (i := 190) rfl), rfl⟩
theorem wq2_191 : Jvm.Cond.instanceMethod ({ cls := "NoticeBoxes$State", name := "isWished", desc := "(I)Z" } : Jvm.MethodName) ∈ wsA := List.mem_filter.mpr ⟨wt_2 (List.mem_of_getElem? (i := 191) rfl), rfl⟩
theorem wq2_192 : Jvm.Cond.selects "NoticeBoxes$State" ({ cls := "NoticeBoxes$State", name := "isWished", desc := "(I)Z" } : Jvm.MethodName) ({ cls := "NoticeBoxes$State", name := "isWished", desc := "(I)Z" } : Jvm.MethodName) ∈ wsA := List.mem_filter.mpr ⟨wt_2 (List.mem_of_getElem? (i := 192) rfl), rfl⟩
theorem wq2_193 : Jvm.Cond.code ({ cls := "NoticeBoxes$State", name := "isWished", desc := "(I)Z" } : Jvm.MethodName) prog_10_method_12_code (3 : Nat) (Option.some Jvm.ClassFile.FieldType.boolean) ∈ wsA := List.mem_filter.mpr ⟨wt_2 (List.mem_of_getElem? (i := 193) rfl), rfl⟩
theorem wq2_194 : Jvm.Cond.methodLink "NoticeBoxesLaw" (44 : Nat) ({ cls := "NoticeBoxes", name := "would", desc := "(IIIII)I" } : Jvm.MethodName) ∈ wsA := List.mem_filter.mpr ⟨wt_2 (List.mem_of_getElem? (i := 194) rfl), rfl⟩
theorem wq2_195 : Jvm.Cond.instanceMethod ({ cls := "NoticeBoxes", name := "would", desc := "(IIIII)I" } : Jvm.MethodName) ∈ wsA := List.mem_filter.mpr ⟨wt_2 (List.mem_of_getElem? (i := 195) rfl), rfl⟩
theorem wq2_196 : Jvm.Cond.selects "NoticeBoxes" ({ cls := "NoticeBoxes", name := "would", desc := "(IIIII)I" } : Jvm.MethodName) ({ cls := "NoticeBoxes", name := "would", desc := "(IIIII)I" } : Jvm.MethodName) ∈ wsA := List.mem_filter.mpr ⟨wt_2 (List.mem_of_getElem? (i := 196) rfl), rfl⟩
theorem wq2_197 : Jvm.Cond.code ({ cls := "NoticeBoxes", name := "would", desc := "(IIIII)I" } : Jvm.MethodName) prog_1_method_9_code (6 : Nat) (Option.some Jvm.ClassFile.FieldType.int) ∈ wsA := List.mem_filter.mpr ⟨wt_2 (List.mem_of_getElem? (i := 197) rfl), rfl⟩
theorem wq2_198 : Jvm.Cond.methodLink "NoticeBoxes" (188 : Nat) ({ cls := "NoticeBoxes", name := "isNotice", desc := "(III)Z" } : Jvm.MethodName) ∈ wsA := List.mem_filter.mpr ⟨wt_2 (List.mem_of_getElem? (i := 198) rfl), rfl⟩
theorem wq2_199 : Jvm.Cond.static ({ cls := "NoticeBoxes", name := "isNotice", desc := "(III)Z" } : Jvm.MethodName) ∈ wsA := List.mem_filter.mpr ⟨wt_2 (List.mem_of_getElem? (i := 199) rfl), rfl⟩
theorem wq2_200 : Jvm.Cond.code ({ cls := "NoticeBoxes", name := "isNotice", desc := "(III)Z" } : Jvm.MethodName) prog_1_method_30_code (3 : Nat) (Option.some Jvm.ClassFile.FieldType.boolean) ∈ wsA := List.mem_filter.mpr ⟨wt_2 (List.mem_of_getElem? (i := 200) rfl), rfl⟩
theorem wq2_201 : Jvm.Cond.methodLink "NoticeBoxes" (191 : Nat) ({ cls := "NoticeBoxes$Box", name := "ofNotice", desc := "(III)I" } : Jvm.MethodName) ∈ wsA := List.mem_filter.mpr ⟨wt_2 (List.mem_of_getElem? (i := 201) rfl), rfl⟩
theorem wq2_202 : Jvm.Cond.static ({ cls := "NoticeBoxes$Box", name := "ofNotice", desc := "(III)I" } : Jvm.MethodName) ∈ wsA := List.mem_filter.mpr ⟨wt_2 (List.mem_of_getElem? (i := 202) rfl), rfl⟩
theorem wq2_203 : Jvm.Cond.code ({ cls := "NoticeBoxes$Box", name := "ofNotice", desc := "(III)I" } : Jvm.MethodName) prog_3_method_2_code (3 : Nat) (Option.some Jvm.ClassFile.FieldType.int) ∈ wsA := List.mem_filter.mpr ⟨wt_2 (List.mem_of_getElem? (i := 203) rfl), rfl⟩
theorem wq2_204 : Jvm.Cond.methodLink "NoticeBoxes" (195 : Nat) ({ cls := "NoticeBoxes$Journey", name := "travel", desc := "(LNoticeBoxes$State;LNoticeBoxes$Tellings;II)V" } : Jvm.MethodName) ∈ wsA := List.mem_filter.mpr ⟨wt_2 (List.mem_of_getElem? (i := 204) rfl), rfl⟩
theorem wq2_205 : Jvm.Cond.instanceMethod ({ cls := "NoticeBoxes$Journey", name := "travel", desc := "(LNoticeBoxes$State;LNoticeBoxes$Tellings;II)V" } : Jvm.MethodName) ∈ wsA := List.mem_filter.mpr ⟨wt_2 (List.mem_of_getElem? (i := 205) rfl), rfl⟩
theorem wq2_206 : Jvm.Cond.selects "NoticeBoxes$Journey" ({ cls := "NoticeBoxes$Journey", name := "travel", desc := "(LNoticeBoxes$State;LNoticeBoxes$Tellings;II)V" } : Jvm.MethodName) ({ cls := "NoticeBoxes$Journey", name := "travel", desc := "(LNoticeBoxes$State;LNoticeBoxes$Tellings;II)V" } : Jvm.MethodName) ∈ wsA := List.mem_filter.mpr ⟨wt_2 (List.mem_of_getElem? (i := 206) rfl), rfl⟩
theorem wq2_207 : Jvm.Cond.code ({ cls := "NoticeBoxes$Journey", name := "travel", desc := "(LNoticeBoxes$State;LNoticeBoxes$Tellings;II)V" } : Jvm.MethodName) prog_8_method_2_code (10 : Nat) (Option.none : Option Jvm.ClassFile.FieldType) ∈ wsA := List.mem_filter.mpr ⟨wt_2 (List.mem_of_getElem? (i := 207) rfl), rfl⟩
theorem wq2_208 : Jvm.Cond.methodLink "NoticeBoxes$Journey" (15 : Nat) ({ cls := "NoticeBoxes$State", name := "clientsWishing", desc := "(I)I" } : Jvm.MethodName) ∈ wsA := List.mem_filter.mpr ⟨wt_2 (List.mem_of_getElem? (i := 208) rfl), rfl⟩
theorem wq2_209 : Jvm.Cond.instanceMethod ({ cls := "NoticeBoxes$State", name := "clientsWishing", desc := "(I)I" } : Jvm.MethodName) ∈ wsA := List.mem_filter.mpr ⟨wt_2 (List.mem_of_getElem? (i := 209) rfl), rfl⟩
theorem wq2_210 : Jvm.Cond.selects "NoticeBoxes$State" ({ cls := "NoticeBoxes$State", name := "clientsWishing", desc := "(I)I" } : Jvm.MethodName) ({ cls := "NoticeBoxes$State", name := "clientsWishing", desc := "(I)I" } : Jvm.MethodName) ∈ wsA := List.mem_filter.mpr ⟨wt_2 (List.mem_of_getElem? (i := 210) rfl), rfl⟩
theorem wq2_211 : Jvm.Cond.code ({ cls := "NoticeBoxes$State", name := "clientsWishing", desc := "(I)I" } : Jvm.MethodName) prog_10_method_11_code (4 : Nat) (Option.some Jvm.ClassFile.FieldType.int) ∈ wsA := List.mem_filter.mpr ⟨wt_2 (List.mem_of_getElem? (i := 211) rfl), rfl⟩
theorem wq2_212 : Jvm.Cond.methodLink "NoticeBoxes$Journey" (31 : Nat) ({ cls := "NoticeBoxes$State", name := "clientsHomeAt", desc := "(I)I" } : Jvm.MethodName) ∈ wsA := List.mem_filter.mpr ⟨wt_2 (List.mem_of_getElem? (i := 212) rfl), rfl⟩
theorem wq2_213 : Jvm.Cond.methodLink "NoticeBoxes$Journey" (34 : Nat) ({ cls := "NoticeBoxes$Journey", name := "goOn", desc := "(LNoticeBoxes$State;LNoticeBoxes$Tellings;II)Z" } : Jvm.MethodName) ∈ wsA := List.mem_filter.mpr ⟨wt_2 (List.mem_of_getElem? (i := 213) rfl), rfl⟩
theorem wq2_214 : Jvm.Cond.privateMethod ({ cls := "NoticeBoxes$Journey", name := "goOn", desc := "(LNoticeBoxes$State;LNoticeBoxes$Tellings;II)Z" } : Jvm.MethodName) ∈ lw_tbl := wt_2 (List.mem_of_getElem? (i := 214) rfl)
theorem wq2_215 : Jvm.Cond.instanceMethod ({ cls := "NoticeBoxes$Journey", name := "goOn", desc := "(LNoticeBoxes$State;LNoticeBoxes$Tellings;II)Z" } : Jvm.MethodName) ∈ wsA := List.mem_filter.mpr ⟨wt_2 (List.mem_of_getElem? (i := 215) rfl), rfl⟩
theorem wq2_216 : Jvm.Cond.code ({ cls := "NoticeBoxes$Journey", name := "goOn", desc := "(LNoticeBoxes$State;LNoticeBoxes$Tellings;II)Z" } : Jvm.MethodName) prog_8_method_3_code (8 : Nat) (Option.some Jvm.ClassFile.FieldType.boolean) ∈ wsA := List.mem_filter.mpr ⟨wt_2 (List.mem_of_getElem? (i := 216) rfl), rfl⟩
theorem wq2_217 : Jvm.Cond.methodLinkNest "NoticeBoxes$Journey" (44 : Nat) ({ cls := "NoticeBoxes", name := "holds", desc := "(II)Z" } : Jvm.MethodName) "NoticeBoxes" ∈ lw_tbl := wt_2 (List.mem_of_getElem? (i := 217) rfl)
theorem wq2_218 : Jvm.Cond.methodLink "NoticeBoxes$Journey" (48 : Nat) ({ cls := "NoticeBoxes$State", name := "areNeighbours", desc := "(II)Z" } : Jvm.MethodName) ∈ wsA := List.mem_filter.mpr ⟨wt_2 (List.mem_of_getElem? (i := 218) rfl), rfl⟩
theorem wq2_219 : Jvm.Cond.methodLink "NoticeBoxes$Journey" (51 : Nat) ({ cls := "NoticeBoxes$Tellings", name := "between", desc := "(LNoticeBoxes$State;II)LNoticeBoxes$BoxList;" } : Jvm.MethodName) ∈ wsA := List.mem_filter.mpr ⟨wt_2 (List.mem_of_getElem? (i := 219) rfl), rfl⟩
theorem wq2_220 : Jvm.Cond.methodLink "NoticeBoxes$Journey" (57 : Nat) ({ cls := "NoticeBoxes$BoxList", name := "covers", desc := "(I)Z" } : Jvm.MethodName) ∈ wsA := List.mem_filter.mpr ⟨wt_2 (List.mem_of_getElem? (i := 220) rfl), rfl⟩
theorem wq2_221 : Jvm.Cond.methodLink "NoticeBoxesLaw" (49 : Nat) ({ cls := "NoticeBoxes", name := "broker", desc := "(I)I" } : Jvm.MethodName) ∈ wsA := List.mem_filter.mpr ⟨wt_2 (List.mem_of_getElem? (i := 221) rfl), rfl⟩
theorem wq2_222 : Jvm.Cond.instanceMethod ({ cls := "NoticeBoxes", name := "broker", desc := "(I)I" } : Jvm.MethodName) ∈ wsA := List.mem_filter.mpr ⟨wt_2 (List.mem_of_getElem? (i := 222) rfl), rfl⟩
theorem wq2_223 : Jvm.Cond.selects "NoticeBoxes" ({ cls := "NoticeBoxes", name := "broker", desc := "(I)I" } : Jvm.MethodName) ({ cls := "NoticeBoxes", name := "broker", desc := "(I)I" } : Jvm.MethodName) ∈ wsA := List.mem_filter.mpr ⟨wt_2 (List.mem_of_getElem? (i := 223) rfl), rfl⟩
theorem wq2_224 : Jvm.Cond.code ({ cls := "NoticeBoxes", name := "broker", desc := "(I)I" } : Jvm.MethodName) prog_1_method_10_code (2 : Nat) (Option.some Jvm.ClassFile.FieldType.int) ∈ wsA := List.mem_filter.mpr ⟨wt_2 (List.mem_of_getElem? (i := 224) rfl), rfl⟩
theorem wq2_225 : Jvm.Cond.constant "NoticeBoxes" (211 : Nat) (-1000000004 : Int32) ∈ wsA := List.mem_filter.mpr ⟨wt_2 (List.mem_of_getElem? (i := 225) rfl), rfl⟩
theorem wq2_226 : Jvm.Cond.methodLink "NoticeBoxes" (212 : Nat) ({ cls := "NoticeBoxes$Past", name := "remember", desc := "(LNoticeBoxes$State;)V" } : Jvm.MethodName) ∈ wsA := List.mem_filter.mpr ⟨wt_2 (List.mem_of_getElem? (i := 226) rfl), rfl⟩
theorem wq2_227 : Jvm.Cond.instanceMethod ({ cls := "NoticeBoxes$Past", name := "remember", desc := "(LNoticeBoxes$State;)V" } : Jvm.MethodName) ∈ wsA := List.mem_filter.mpr ⟨wt_2 (List.mem_of_getElem? (i := 227) rfl), rfl⟩
theorem wq2_228 : Jvm.Cond.selects "NoticeBoxes$Past" ({ cls := "NoticeBoxes$Past", name := "remember", desc := "(LNoticeBoxes$State;)V" } : Jvm.MethodName) ({ cls := "NoticeBoxes$Past", name := "remember", desc := "(LNoticeBoxes$State;)V" } : Jvm.MethodName) ∈ wsA := List.mem_filter.mpr ⟨wt_2 (List.mem_of_getElem? (i := 228) rfl), rfl⟩
theorem wq2_229 : Jvm.Cond.code ({ cls := "NoticeBoxes$Past", name := "remember", desc := "(LNoticeBoxes$State;)V" } : Jvm.MethodName) prog_9_method_2_code (2 : Nat) (Option.none : Option Jvm.ClassFile.FieldType) ∈ wsA := List.mem_filter.mpr ⟨wt_2 (List.mem_of_getElem? (i := 229) rfl), rfl⟩
theorem wq2_230 : Jvm.Cond.methodLink "NoticeBoxes$Past" (25 : Nat) ({ cls := "NoticeBoxes$State", name := "copyFrom", desc := "(LNoticeBoxes$State;)V" } : Jvm.MethodName) ∈ wsA := List.mem_filter.mpr ⟨wt_2 (List.mem_of_getElem? (i := 230) rfl), rfl⟩
theorem wq2_231 : Jvm.Cond.instanceMethod ({ cls := "NoticeBoxes$State", name := "copyFrom", desc := "(LNoticeBoxes$State;)V" } : Jvm.MethodName) ∈ wsA := List.mem_filter.mpr ⟨wt_2 (List.mem_of_getElem? (i := 231) rfl), rfl⟩
theorem wq2_232 : Jvm.Cond.selects "NoticeBoxes$State" ({ cls := "NoticeBoxes$State", name := "copyFrom", desc := "(LNoticeBoxes$State;)V" } : Jvm.MethodName) ({ cls := "NoticeBoxes$State", name := "copyFrom", desc := "(LNoticeBoxes$State;)V" } : Jvm.MethodName) ∈ wsA := List.mem_filter.mpr ⟨wt_2 (List.mem_of_getElem? (i := 232) rfl), rfl⟩
theorem wq2_233 : Jvm.Cond.code ({ cls := "NoticeBoxes$State", name := "copyFrom", desc := "(LNoticeBoxes$State;)V" } : Jvm.MethodName) prog_10_method_2_code (3 : Nat) (Option.none : Option Jvm.ClassFile.FieldType) ∈ wsA := List.mem_filter.mpr ⟨wt_2 (List.mem_of_getElem? (i := 233) rfl), rfl⟩
theorem wq2_234 : Jvm.Cond.methodLink "NoticeBoxes$State" (50 : Nat) ({ cls := "java/lang/System", name := "arraycopy", desc := "(Ljava/lang/Object;ILjava/lang/Object;II)V" } : Jvm.MethodName) ∈ wsA := List.mem_filter.mpr ⟨wt_2 (List.mem_of_getElem? (i := 234) rfl), rfl⟩
theorem wq2_235 : Jvm.Cond.static ({ cls := "java/lang/System", name := "arraycopy", desc := "(Ljava/lang/Object;ILjava/lang/Object;II)V" } : Jvm.MethodName) ∈ wsA := List.mem_filter.mpr ⟨wt_2 (List.mem_of_getElem? (i := 235) rfl), rfl⟩
theorem wq2_236 : Jvm.Cond.native ({ cls := "java/lang/System", name := "arraycopy", desc := "(Ljava/lang/Object;ILjava/lang/Object;II)V" } : Jvm.MethodName) ∈ wsA := List.mem_filter.mpr ⟨wt_2 (List.mem_of_getElem? (i := 236) rfl), rfl⟩
theorem wq2_237 : Jvm.Cond.methodLink "NoticeBoxes$State" (56 : Nat) ({ cls := "NoticeBoxes$Client", name := "copyFrom", desc := "(LNoticeBoxes$Client;)V" } : Jvm.MethodName) ∈ wsA := List.mem_filter.mpr ⟨wt_2 (List.mem_of_getElem? (i := 237) rfl), rfl⟩
theorem wq2_238 : Jvm.Cond.instanceMethod ({ cls := "NoticeBoxes$Client", name := "copyFrom", desc := "(LNoticeBoxes$Client;)V" } : Jvm.MethodName) ∈ wsA := List.mem_filter.mpr ⟨wt_2 (List.mem_of_getElem? (i := 238) rfl), rfl⟩
theorem wq2_239 : Jvm.Cond.selects "NoticeBoxes$Client" ({ cls := "NoticeBoxes$Client", name := "copyFrom", desc := "(LNoticeBoxes$Client;)V" } : Jvm.MethodName) ({ cls := "NoticeBoxes$Client", name := "copyFrom", desc := "(LNoticeBoxes$Client;)V" } : Jvm.MethodName) ∈ wsA := List.mem_filter.mpr ⟨wt_2 (List.mem_of_getElem? (i := 239) rfl), rfl⟩
theorem wq3_0 : Jvm.Cond.code ({ cls := "NoticeBoxes$Client", name := "copyFrom", desc := "(LNoticeBoxes$Client;)V" } : Jvm.MethodName) prog_5_method_3_code (2 : Nat) (Option.none : Option Jvm.ClassFile.FieldType) ∈ wsA := List.mem_filter.mpr ⟨wt_3 (List.mem_of_getElem? (i := 0) rfl), rfl⟩
theorem wq3_1 : Jvm.Cond.methodLink "NoticeBoxes$Client" (35 : Nat) ({ cls := "java/lang/System", name := "arraycopy", desc := "(Ljava/lang/Object;ILjava/lang/Object;II)V" } : Jvm.MethodName) ∈ wsA := List.mem_filter.mpr ⟨wt_3 (List.mem_of_getElem? (i := 1) rfl), rfl⟩
theorem wq3_2 : Jvm.Cond.methodLink "NoticeBoxes" (215 : Nat) ({ cls := "NoticeBoxes$Tellings", name := "outdate", desc := "()V" } : Jvm.MethodName) ∈ wsA := List.mem_filter.mpr ⟨wt_3 (List.mem_of_getElem? (i := 2) rfl), rfl⟩
theorem wq3_3 : Jvm.Cond.instanceMethod ({ cls := "NoticeBoxes$Tellings", name := "outdate", desc := "()V" } : Jvm.MethodName) ∈ wsA := List.mem_filter.mpr ⟨wt_3 (List.mem_of_getElem? (i := 3) rfl), rfl⟩
theorem wq3_4 : Jvm.Cond.selects "NoticeBoxes$Tellings" ({ cls := "NoticeBoxes$Tellings", name := "outdate", desc := "()V" } : Jvm.MethodName) ({ cls := "NoticeBoxes$Tellings", name := "outdate", desc := "()V" } : Jvm.MethodName) ∈ wsA := List.mem_filter.mpr ⟨wt_3 (List.mem_of_getElem? (i := 4) rfl), rfl⟩
theorem wq3_5 : Jvm.Cond.code ({ cls := "NoticeBoxes$Tellings", name := "outdate", desc := "()V" } : Jvm.MethodName) prog_11_method_2_code (1 : Nat) (Option.none : Option Jvm.ClassFile.FieldType) ∈ wsA := List.mem_filter.mpr ⟨wt_3 (List.mem_of_getElem? (i := 5) rfl), rfl⟩
theorem wq3_6 : Jvm.Cond.methodLink "NoticeBoxes" (218 : Nat) ({ cls := "NoticeBoxes$State", name := "addBroker", desc := "(I)I" } : Jvm.MethodName) ∈ wsA := List.mem_filter.mpr ⟨wt_3 (List.mem_of_getElem? (i := 6) rfl), rfl⟩
theorem wq3_7 : Jvm.Cond.instanceMethod ({ cls := "NoticeBoxes$State", name := "addBroker", desc := "(I)I" } : Jvm.MethodName) ∈ wsA := List.mem_filter.mpr ⟨wt_3 (List.mem_of_getElem? (i := 7) rfl), rfl⟩
theorem wq3_8 : Jvm.Cond.selects "NoticeBoxes$State" ({ cls := "NoticeBoxes$State", name := "addBroker", desc := "(I)I" } : Jvm.MethodName) ({ cls := "NoticeBoxes$State", name := "addBroker", desc := "(I)I" } : Jvm.MethodName) ∈ wsA := List.mem_filter.mpr ⟨wt_3 (List.mem_of_getElem? (i := 8) rfl), rfl⟩
theorem wq3_9 : Jvm.Cond.code ({ cls := "NoticeBoxes$State", name := "addBroker", desc := "(I)I" } : Jvm.MethodName) prog_10_method_13_code (2 : Nat) (Option.some Jvm.ClassFile.FieldType.int) ∈ wsA := List.mem_filter.mpr ⟨wt_3 (List.mem_of_getElem? (i := 9) rfl), rfl⟩
theorem wq3_10 : Jvm.Cond.methodLink "NoticeBoxesLaw" (53 : Nat) ({ cls := "NoticeBoxes", name := "client", desc := "(I)I" } : Jvm.MethodName) ∈ wsA := List.mem_filter.mpr ⟨wt_3 (List.mem_of_getElem? (i := 10) rfl), rfl⟩
theorem wq3_11 : Jvm.Cond.instanceMethod ({ cls := "NoticeBoxes", name := "client", desc := "(I)I" } : Jvm.MethodName) ∈ wsA := List.mem_filter.mpr ⟨wt_3 (List.mem_of_getElem? (i := 11) rfl), rfl⟩
theorem wq3_12 : Jvm.Cond.selects "NoticeBoxes" ({ cls := "NoticeBoxes", name := "client", desc := "(I)I" } : Jvm.MethodName) ({ cls := "NoticeBoxes", name := "client", desc := "(I)I" } : Jvm.MethodName) ∈ wsA := List.mem_filter.mpr ⟨wt_3 (List.mem_of_getElem? (i := 12) rfl), rfl⟩
theorem wq3_13 : Jvm.Cond.code ({ cls := "NoticeBoxes", name := "client", desc := "(I)I" } : Jvm.MethodName) prog_1_method_11_code (2 : Nat) (Option.some Jvm.ClassFile.FieldType.int) ∈ wsA := List.mem_filter.mpr ⟨wt_3 (List.mem_of_getElem? (i := 13) rfl), rfl⟩
theorem wq3_14 : Jvm.Cond.methodLink "NoticeBoxes" (221 : Nat) ({ cls := "NoticeBoxes$State", name := "addClient", desc := "(I)I" } : Jvm.MethodName) ∈ wsA := List.mem_filter.mpr ⟨wt_3 (List.mem_of_getElem? (i := 14) rfl), rfl⟩
theorem wq3_15 : Jvm.Cond.instanceMethod ({ cls := "NoticeBoxes$State", name := "addClient", desc := "(I)I" } : Jvm.MethodName) ∈ wsA := List.mem_filter.mpr ⟨wt_3 (List.mem_of_getElem? (i := 15) rfl), rfl⟩
theorem wq3_16 : Jvm.Cond.selects "NoticeBoxes$State" ({ cls := "NoticeBoxes$State", name := "addClient", desc := "(I)I" } : Jvm.MethodName) ({ cls := "NoticeBoxes$State", name := "addClient", desc := "(I)I" } : Jvm.MethodName) ∈ wsA := List.mem_filter.mpr ⟨wt_3 (List.mem_of_getElem? (i := 16) rfl), rfl⟩
theorem wq3_17 : Jvm.Cond.code ({ cls := "NoticeBoxes$State", name := "addClient", desc := "(I)I" } : Jvm.MethodName) prog_10_method_14_code (2 : Nat) (Option.some Jvm.ClassFile.FieldType.int) ∈ wsA := List.mem_filter.mpr ⟨wt_3 (List.mem_of_getElem? (i := 17) rfl), rfl⟩
theorem wq3_18 : Jvm.Cond.methodLink "NoticeBoxes$State" (83 : Nat) ({ cls := "NoticeBoxes$Client", name := "begin", desc := "(I)V" } : Jvm.MethodName) ∈ wsA := List.mem_filter.mpr ⟨wt_3 (List.mem_of_getElem? (i := 18) rfl), rfl⟩
theorem wq3_19 : Jvm.Cond.instanceMethod ({ cls := "NoticeBoxes$Client", name := "begin", desc := "(I)V" } : Jvm.MethodName) ∈ wsA := List.mem_filter.mpr ⟨wt_3 (List.mem_of_getElem? (i := 19) rfl), rfl⟩
theorem wq3_20 : Jvm.Cond.selects "NoticeBoxes$Client" ({ cls := "NoticeBoxes$Client", name := "begin", desc := "(I)V" } : Jvm.MethodName) ({ cls := "NoticeBoxes$Client", name := "begin", desc := "(I)V" } : Jvm.MethodName) ∈ wsA := List.mem_filter.mpr ⟨wt_3 (List.mem_of_getElem? (i := 20) rfl), rfl⟩
theorem wq3_21 : Jvm.Cond.code ({ cls := "NoticeBoxes$Client", name := "begin", desc := "(I)V" } : Jvm.MethodName) prog_5_method_2_code (2 : Nat) (Option.none : Option Jvm.ClassFile.FieldType) ∈ wsA := List.mem_filter.mpr ⟨wt_3 (List.mem_of_getElem? (i := 21) rfl), rfl⟩
theorem wq3_22 : Jvm.Cond.methodLink "NoticeBoxesLaw" (57 : Nat) ({ cls := "NoticeBoxes", name := "wish", desc := "(IIIIIII)I" } : Jvm.MethodName) ∈ wsA := List.mem_filter.mpr ⟨wt_3 (List.mem_of_getElem? (i := 22) rfl), rfl⟩
theorem wq3_23 : Jvm.Cond.instanceMethod ({ cls := "NoticeBoxes", name := "wish", desc := "(IIIIIII)I" } : Jvm.MethodName) ∈ wsA := List.mem_filter.mpr ⟨wt_3 (List.mem_of_getElem? (i := 23) rfl), rfl⟩
theorem wq3_24 : Jvm.Cond.selects "NoticeBoxes" ({ cls := "NoticeBoxes", name := "wish", desc := "(IIIIIII)I" } : Jvm.MethodName) ({ cls := "NoticeBoxes", name := "wish", desc := "(IIIIIII)I" } : Jvm.MethodName) ∈ wsA := List.mem_filter.mpr ⟨wt_3 (List.mem_of_getElem? (i := 24) rfl), rfl⟩
theorem wq3_25 : Jvm.Cond.code ({ cls := "NoticeBoxes", name := "wish", desc := "(IIIIIII)I" } : Jvm.MethodName) prog_1_method_12_code (9 : Nat) (Option.some Jvm.ClassFile.FieldType.int) ∈ wsA := List.mem_filter.mpr ⟨wt_3 (List.mem_of_getElem? (i := 25) rfl), rfl⟩
theorem wq3_26 : Jvm.Cond.methodLink "NoticeBoxes" (224 : Nat) ({ cls := "NoticeBoxes", name := "isKind", desc := "(I)Z" } : Jvm.MethodName) ∈ wsA := List.mem_filter.mpr ⟨wt_3 (List.mem_of_getElem? (i := 26) rfl), rfl⟩
theorem wq3_27 : Jvm.Cond.static ({ cls := "NoticeBoxes", name := "isKind", desc := "(I)Z" } : Jvm.MethodName) ∈ wsA := List.mem_filter.mpr ⟨wt_3 (List.mem_of_getElem? (i := 27) rfl), rfl⟩
theorem wq3_28 : Jvm.Cond.code ({ cls := "NoticeBoxes", name := "isKind", desc := "(I)Z" } : Jvm.MethodName) prog_1_method_29_code (1 : Nat) (Option.some Jvm.ClassFile.FieldType.boolean) ∈ wsA := List.mem_filter.mpr ⟨wt_3 (List.mem_of_getElem? (i := 28) rfl), rfl⟩
theorem wq3_29 : Jvm.Cond.methodLink "NoticeBoxes" (227 : Nat) ({ cls := "NoticeBoxes$Box", name := "withKind", desc := "(III)I" } : Jvm.MethodName) ∈ wsA := List.mem_filter.mpr ⟨wt_3 (List.mem_of_getElem? (i := 29) rfl), rfl⟩
theorem wq3_30 : Jvm.Cond.static ({ cls := "NoticeBoxes$Box", name := "withKind", desc := "(III)I" } : Jvm.MethodName) ∈ wsA := List.mem_filter.mpr ⟨wt_3 (List.mem_of_getElem? (i := 30) rfl), rfl⟩
theorem wq3_31 : Jvm.Cond.code ({ cls := "NoticeBoxes$Box", name := "withKind", desc := "(III)I" } : Jvm.MethodName) prog_3_method_4_code (5 : Nat) (Option.some Jvm.ClassFile.FieldType.int) ∈ wsA := List.mem_filter.mpr ⟨wt_3 (List.mem_of_getElem? (i := 31) rfl), rfl⟩
theorem wq3_32 : Jvm.Cond.methodLink "NoticeBoxes" (230 : Nat) ({ cls := "NoticeBoxes$State", name := "addWish", desc := "(II)I" } : Jvm.MethodName) ∈ wsA := List.mem_filter.mpr ⟨wt_3 (List.mem_of_getElem? (i := 32) rfl), rfl⟩
theorem wq3_33 : Jvm.Cond.instanceMethod ({ cls := "NoticeBoxes$State", name := "addWish", desc := "(II)I" } : Jvm.MethodName) ∈ wsA := List.mem_filter.mpr ⟨wt_3 (List.mem_of_getElem? (i := 33) rfl), rfl⟩
theorem wq3_34 : Jvm.Cond.selects "NoticeBoxes$State" ({ cls := "NoticeBoxes$State", name := "addWish", desc := "(II)I" } : Jvm.MethodName) ({ cls := "NoticeBoxes$State", name := "addWish", desc := "(II)I" } : Jvm.MethodName) ∈ wsA := List.mem_filter.mpr ⟨wt_3 (List.mem_of_getElem? (i := 34) rfl), rfl⟩
theorem wq3_35 : Jvm.Cond.code ({ cls := "NoticeBoxes$State", name := "addWish", desc := "(II)I" } : Jvm.MethodName) prog_10_method_15_code (3 : Nat) (Option.some Jvm.ClassFile.FieldType.int) ∈ wsA := List.mem_filter.mpr ⟨wt_3 (List.mem_of_getElem? (i := 35) rfl), rfl⟩
theorem wq3_36 : Jvm.Cond.methodLink "NoticeBoxesLaw" (62 : Nat) ({ cls := "NoticeBoxes", name := "drop", desc := "(I)I" } : Jvm.MethodName) ∈ wsA := List.mem_filter.mpr ⟨wt_3 (List.mem_of_getElem? (i := 36) rfl), rfl⟩
theorem wq3_37 : Jvm.Cond.instanceMethod ({ cls := "NoticeBoxes", name := "drop", desc := "(I)I" } : Jvm.MethodName) ∈ wsA := List.mem_filter.mpr ⟨wt_3 (List.mem_of_getElem? (i := 37) rfl), rfl⟩
theorem wq3_38 : Jvm.Cond.selects "NoticeBoxes" ({ cls := "NoticeBoxes", name := "drop", desc := "(I)I" } : Jvm.MethodName) ({ cls := "NoticeBoxes", name := "drop", desc := "(I)I" } : Jvm.MethodName) ∈ wsA := List.mem_filter.mpr ⟨wt_3 (List.mem_of_getElem? (i := 38) rfl), rfl⟩
theorem wq3_39 : Jvm.Cond.code ({ cls := "NoticeBoxes", name := "drop", desc := "(I)I" } : Jvm.MethodName) prog_1_method_13_code (2 : Nat) (Option.some Jvm.ClassFile.FieldType.int) ∈ wsA := List.mem_filter.mpr ⟨wt_3 (List.mem_of_getElem? (i := 39) rfl), rfl⟩
theorem wq3_40 : Jvm.Cond.methodLink "NoticeBoxes" (233 : Nat) ({ cls := "NoticeBoxes$State", name := "removeWish", desc := "(I)V" } : Jvm.MethodName) ∈ wsA := List.mem_filter.mpr ⟨wt_3 (List.mem_of_getElem? (i := 40) rfl), rfl⟩
theorem wq3_41 : Jvm.Cond.instanceMethod ({ cls := "NoticeBoxes$State", name := "removeWish", desc := "(I)V" } : Jvm.MethodName) ∈ wsA := List.mem_filter.mpr ⟨wt_3 (List.mem_of_getElem? (i := 41) rfl), rfl⟩
theorem wq3_42 : Jvm.Cond.selects "NoticeBoxes$State" ({ cls := "NoticeBoxes$State", name := "removeWish", desc := "(I)V" } : Jvm.MethodName) ({ cls := "NoticeBoxes$State", name := "removeWish", desc := "(I)V" } : Jvm.MethodName) ∈ wsA := List.mem_filter.mpr ⟨wt_3 (List.mem_of_getElem? (i := 42) rfl), rfl⟩
theorem wq3_43 : Jvm.Cond.code ({ cls := "NoticeBoxes$State", name := "removeWish", desc := "(I)V" } : Jvm.MethodName) prog_10_method_16_code (3 : Nat) (Option.none : Option Jvm.ClassFile.FieldType) ∈ wsA := List.mem_filter.mpr ⟨wt_3 (List.mem_of_getElem? (i := 43) rfl), rfl⟩
theorem wq3_44 : Jvm.Cond.methodLink "NoticeBoxesLaw" (66 : Nat) ({ cls := "NoticeBoxes", name := "most", desc := "(I)I" } : Jvm.MethodName) ∈ wsA := List.mem_filter.mpr ⟨wt_3 (List.mem_of_getElem? (i := 44) rfl), rfl⟩
theorem wq3_45 : Jvm.Cond.instanceMethod ({ cls := "NoticeBoxes", name := "most", desc := "(I)I" } : Jvm.MethodName) ∈ wsA := List.mem_filter.mpr ⟨wt_3 (List.mem_of_getElem? (i := 45) rfl), rfl⟩
theorem wq3_46 : Jvm.Cond.selects "NoticeBoxes" ({ cls := "NoticeBoxes", name := "most", desc := "(I)I" } : Jvm.MethodName) ({ cls := "NoticeBoxes", name := "most", desc := "(I)I" } : Jvm.MethodName) ∈ wsA := List.mem_filter.mpr ⟨wt_3 (List.mem_of_getElem? (i := 46) rfl), rfl⟩
theorem wq3_47 : Jvm.Cond.code ({ cls := "NoticeBoxes", name := "most", desc := "(I)I" } : Jvm.MethodName) prog_1_method_14_code (3 : Nat) (Option.some Jvm.ClassFile.FieldType.int) ∈ wsA := List.mem_filter.mpr ⟨wt_3 (List.mem_of_getElem? (i := 47) rfl), rfl⟩
theorem wq3_48 : Jvm.Cond.methodLink "NoticeBoxesLaw" (70 : Nat) ({ cls := "NoticeBoxes", name := "put", desc := "(IIII)I" } : Jvm.MethodName) ∈ wsA := List.mem_filter.mpr ⟨wt_3 (List.mem_of_getElem? (i := 48) rfl), rfl⟩
theorem wq3_49 : Jvm.Cond.instanceMethod ({ cls := "NoticeBoxes", name := "put", desc := "(IIII)I" } : Jvm.MethodName) ∈ wsA := List.mem_filter.mpr ⟨wt_3 (List.mem_of_getElem? (i := 49) rfl), rfl⟩
theorem wq3_50 : Jvm.Cond.selects "NoticeBoxes" ({ cls := "NoticeBoxes", name := "put", desc := "(IIII)I" } : Jvm.MethodName) ({ cls := "NoticeBoxes", name := "put", desc := "(IIII)I" } : Jvm.MethodName) ∈ wsA := List.mem_filter.mpr ⟨wt_3 (List.mem_of_getElem? (i := 50) rfl), rfl⟩
theorem wq3_51 : Jvm.Cond.code ({ cls := "NoticeBoxes", name := "put", desc := "(IIII)I" } : Jvm.MethodName) prog_1_method_15_code (5 : Nat) (Option.some Jvm.ClassFile.FieldType.int) ∈ wsA := List.mem_filter.mpr ⟨wt_3 (List.mem_of_getElem? (i := 51) rfl), rfl⟩
theorem wq3_52 : Jvm.Cond.methodLink "NoticeBoxes" (237 : Nat) ({ cls := "NoticeBoxes", name := "deliver", desc := "(II)I" } : Jvm.MethodName) ∈ wsA := List.mem_filter.mpr ⟨wt_3 (List.mem_of_getElem? (i := 52) rfl), rfl⟩
theorem wq3_53 : Jvm.Cond.privateMethod ({ cls := "NoticeBoxes", name := "deliver", desc := "(II)I" } : Jvm.MethodName) ∈ lw_tbl := wt_3 (List.mem_of_getElem? (i := 53) rfl)
theorem wq3_54 : Jvm.Cond.instanceMethod ({ cls := "NoticeBoxes", name := "deliver", desc := "(II)I" } : Jvm.MethodName) ∈ wsA := List.mem_filter.mpr ⟨wt_3 (List.mem_of_getElem? (i := 54) rfl), rfl⟩
theorem wq3_55 : Jvm.Cond.code ({ cls := "NoticeBoxes", name := "deliver", desc := "(II)I" } : Jvm.MethodName) prog_1_method_26_code (3 : Nat) (Option.some Jvm.ClassFile.FieldType.int) ∈ wsA := List.mem_filter.mpr ⟨wt_3 (List.mem_of_getElem? (i := 55) rfl), rfl⟩
theorem wq3_56 : Jvm.Cond.methodLink "NoticeBoxes" (271 : Nat) ({ cls := "NoticeBoxes$State", name := "hand", desc := "(LNoticeBoxes$Journey;)V" } : Jvm.MethodName) ∈ wsA := List.mem_filter.mpr ⟨wt_3 (List.mem_of_getElem? (i := 56) rfl), rfl⟩
theorem wq3_57 : Jvm.Cond.instanceMethod ({ cls := "NoticeBoxes$State", name := "hand", desc := "(LNoticeBoxes$Journey;)V" } : Jvm.MethodName) ∈ wsA := List.mem_filter.mpr ⟨wt_3 (List.mem_of_getElem? (i := 57) rfl), rfl⟩
theorem wq3_58 : Jvm.Cond.selects "NoticeBoxes$State" ({ cls := "NoticeBoxes$State", name := "hand", desc := "(LNoticeBoxes$Journey;)V" } : Jvm.MethodName) ({ cls := "NoticeBoxes$State", name := "hand", desc := "(LNoticeBoxes$Journey;)V" } : Jvm.MethodName) ∈ wsA := List.mem_filter.mpr ⟨wt_3 (List.mem_of_getElem? (i := 58) rfl), rfl⟩
theorem wq3_59 : Jvm.Cond.code ({ cls := "NoticeBoxes$State", name := "hand", desc := "(LNoticeBoxes$Journey;)V" } : Jvm.MethodName) prog_10_method_18_code (3 : Nat) (Option.none : Option Jvm.ClassFile.FieldType) ∈ wsA := List.mem_filter.mpr ⟨wt_3 (List.mem_of_getElem? (i := 59) rfl), rfl⟩
theorem wq3_60 : Jvm.Cond.methodLink "NoticeBoxes$State" (95 : Nat) ({ cls := "NoticeBoxes$Client", name := "receive", desc := "(I)V" } : Jvm.MethodName) ∈ wsA := List.mem_filter.mpr ⟨wt_3 (List.mem_of_getElem? (i := 60) rfl), rfl⟩
theorem wq3_61 : Jvm.Cond.instanceMethod ({ cls := "NoticeBoxes$Client", name := "receive", desc := "(I)V" } : Jvm.MethodName) ∈ wsA := List.mem_filter.mpr ⟨wt_3 (List.mem_of_getElem? (i := 61) rfl), rfl⟩
theorem wq3_62 : Jvm.Cond.selects "NoticeBoxes$Client" ({ cls := "NoticeBoxes$Client", name := "receive", desc := "(I)V" } : Jvm.MethodName) ({ cls := "NoticeBoxes$Client", name := "receive", desc := "(I)V" } : Jvm.MethodName) ∈ wsA := List.mem_filter.mpr ⟨wt_3 (List.mem_of_getElem? (i := 62) rfl), rfl⟩
theorem wq3_63 : Jvm.Cond.code ({ cls := "NoticeBoxes$Client", name := "receive", desc := "(I)V" } : Jvm.MethodName) prog_5_method_5_code (2 : Nat) (Option.none : Option Jvm.ClassFile.FieldType) ∈ wsA := List.mem_filter.mpr ⟨wt_3 (List.mem_of_getElem? (i := 63) rfl), rfl⟩
theorem wq3_64 : Jvm.Cond.methodLink "NoticeBoxes$Client" (41 : Nat) ({ cls := "NoticeBoxes$Client", name := "enter", desc := "(I)V" } : Jvm.MethodName) ∈ wsA := List.mem_filter.mpr ⟨wt_3 (List.mem_of_getElem? (i := 64) rfl), rfl⟩
theorem wq3_65 : Jvm.Cond.privateMethod ({ cls := "NoticeBoxes$Client", name := "enter", desc := "(I)V" } : Jvm.MethodName) ∈ lw_tbl := wt_3 (List.mem_of_getElem? (i := 65) rfl)
theorem wq3_66 : Jvm.Cond.instanceMethod ({ cls := "NoticeBoxes$Client", name := "enter", desc := "(I)V" } : Jvm.MethodName) ∈ wsA := List.mem_filter.mpr ⟨wt_3 (List.mem_of_getElem? (i := 66) rfl), rfl⟩
theorem wq3_67 : Jvm.Cond.code ({ cls := "NoticeBoxes$Client", name := "enter", desc := "(I)V" } : Jvm.MethodName) prog_5_method_7_code (3 : Nat) (Option.none : Option Jvm.ClassFile.FieldType) ∈ wsA := List.mem_filter.mpr ⟨wt_3 (List.mem_of_getElem? (i := 67) rfl), rfl⟩
theorem wq3_68 : Jvm.Cond.methodLink "NoticeBoxes$Client" (45 : Nat) ({ cls := "NoticeBoxes$Client", name := "store", desc := "(I)V" } : Jvm.MethodName) ∈ wsA := List.mem_filter.mpr ⟨wt_3 (List.mem_of_getElem? (i := 68) rfl), rfl⟩
theorem wq3_69 : Jvm.Cond.privateMethod ({ cls := "NoticeBoxes$Client", name := "store", desc := "(I)V" } : Jvm.MethodName) ∈ lw_tbl := wt_3 (List.mem_of_getElem? (i := 69) rfl)
theorem wq3_70 : Jvm.Cond.instanceMethod ({ cls := "NoticeBoxes$Client", name := "store", desc := "(I)V" } : Jvm.MethodName) ∈ wsA := List.mem_filter.mpr ⟨wt_3 (List.mem_of_getElem? (i := 70) rfl), rfl⟩
theorem wq3_71 : Jvm.Cond.code ({ cls := "NoticeBoxes$Client", name := "store", desc := "(I)V" } : Jvm.MethodName) prog_5_method_8_code (2 : Nat) (Option.none : Option Jvm.ClassFile.FieldType) ∈ wsA := List.mem_filter.mpr ⟨wt_3 (List.mem_of_getElem? (i := 71) rfl), rfl⟩
theorem wq3_72 : Jvm.Cond.methodLink "NoticeBoxes$Client" (48 : Nat) ({ cls := "NoticeBoxes$Client", name := "loseFirst", desc := "()V" } : Jvm.MethodName) ∈ wsA := List.mem_filter.mpr ⟨wt_3 (List.mem_of_getElem? (i := 72) rfl), rfl⟩
theorem wq3_73 : Jvm.Cond.privateMethod ({ cls := "NoticeBoxes$Client", name := "loseFirst", desc := "()V" } : Jvm.MethodName) ∈ lw_tbl := wt_3 (List.mem_of_getElem? (i := 73) rfl)
theorem wq3_74 : Jvm.Cond.instanceMethod ({ cls := "NoticeBoxes$Client", name := "loseFirst", desc := "()V" } : Jvm.MethodName) ∈ wsA := List.mem_filter.mpr ⟨wt_3 (List.mem_of_getElem? (i := 74) rfl), rfl⟩
theorem wq3_75 : Jvm.Cond.code ({ cls := "NoticeBoxes$Client", name := "loseFirst", desc := "()V" } : Jvm.MethodName) prog_5_method_9_code (2 : Nat) (Option.none : Option Jvm.ClassFile.FieldType) ∈ wsA := List.mem_filter.mpr ⟨wt_3 (List.mem_of_getElem? (i := 75) rfl), rfl⟩
theorem wq3_76 : Jvm.Cond.methodLink "NoticeBoxes$State" (104 : Nat) ({ cls := "java/lang/Integer", name := "bitCount", desc := "(I)I" } : Jvm.MethodName) ∈ wsA := List.mem_filter.mpr ⟨wt_3 (List.mem_of_getElem? (i := 76) rfl), rfl⟩
theorem wq3_77 : Jvm.Cond.static ({ cls := "java/lang/Integer", name := "bitCount", desc := "(I)I" } : Jvm.MethodName) ∈ wsA := List.mem_filter.mpr ⟨wt_3 (List.mem_of_getElem? (i := 77) rfl), rfl⟩
theorem wq3_78 : Jvm.Cond.code ({ cls := "java/lang/Integer", name := "bitCount", desc := "(I)I" } : Jvm.MethodName) prog_14_method_49_code (1 : Nat) (Option.some Jvm.ClassFile.FieldType.int) ∈ wsA := List.mem_filter.mpr ⟨wt_3 (List.mem_of_getElem? (i := 78) rfl), rfl⟩
theorem wq3_79 : Jvm.Cond.constant "java/lang/Integer" (265 : Nat) (1431655765 : Int32) ∈ wsA := List.mem_filter.mpr ⟨wt_3 (List.mem_of_getElem? (i := 79) rfl), rfl⟩
theorem wq3_80 : Jvm.Cond.constant "java/lang/Integer" (266 : Nat) (858993459 : Int32) ∈ wsA := List.mem_filter.mpr ⟨wt_3 (List.mem_of_getElem? (i := 80) rfl), rfl⟩
theorem wq3_81 : Jvm.Cond.constant "java/lang/Integer" (267 : Nat) (252645135 : Int32) ∈ wsA := List.mem_filter.mpr ⟨wt_3 (List.mem_of_getElem? (i := 81) rfl), rfl⟩
theorem wq3_82 : Jvm.Cond.methodLink "NoticeBoxes" (275 : Nat) ({ cls := "java/lang/Integer", name := "bitCount", desc := "(I)I" } : Jvm.MethodName) ∈ wsA := List.mem_filter.mpr ⟨wt_3 (List.mem_of_getElem? (i := 82) rfl), rfl⟩
theorem wq3_83 : Jvm.Cond.methodLink "NoticeBoxesLaw" (74 : Nat) ({ cls := "NoticeBoxes", name := "leave", desc := "(I)I" } : Jvm.MethodName) ∈ wsA := List.mem_filter.mpr ⟨wt_3 (List.mem_of_getElem? (i := 83) rfl), rfl⟩
theorem wq3_84 : Jvm.Cond.instanceMethod ({ cls := "NoticeBoxes", name := "leave", desc := "(I)I" } : Jvm.MethodName) ∈ wsA := List.mem_filter.mpr ⟨wt_3 (List.mem_of_getElem? (i := 84) rfl), rfl⟩
theorem wq3_85 : Jvm.Cond.selects "NoticeBoxes" ({ cls := "NoticeBoxes", name := "leave", desc := "(I)I" } : Jvm.MethodName) ({ cls := "NoticeBoxes", name := "leave", desc := "(I)I" } : Jvm.MethodName) ∈ wsA := List.mem_filter.mpr ⟨wt_3 (List.mem_of_getElem? (i := 85) rfl), rfl⟩
theorem wq3_86 : Jvm.Cond.code ({ cls := "NoticeBoxes", name := "leave", desc := "(I)I" } : Jvm.MethodName) prog_1_method_16_code (3 : Nat) (Option.some Jvm.ClassFile.FieldType.int) ∈ wsA := List.mem_filter.mpr ⟨wt_3 (List.mem_of_getElem? (i := 86) rfl), rfl⟩
theorem wq3_87 : Jvm.Cond.constant "NoticeBoxes" (240 : Nat) (-1000000003 : Int32) ∈ wsA := List.mem_filter.mpr ⟨wt_3 (List.mem_of_getElem? (i := 87) rfl), rfl⟩
theorem wq3_88 : Jvm.Cond.methodLink "NoticeBoxesLaw" (78 : Nat) ({ cls := "NoticeBoxes", name := "come", desc := "(II)I" } : Jvm.MethodName) ∈ wsA := List.mem_filter.mpr ⟨wt_3 (List.mem_of_getElem? (i := 88) rfl), rfl⟩
theorem wq3_89 : Jvm.Cond.instanceMethod ({ cls := "NoticeBoxes", name := "come", desc := "(II)I" } : Jvm.MethodName) ∈ wsA := List.mem_filter.mpr ⟨wt_3 (List.mem_of_getElem? (i := 89) rfl), rfl⟩
theorem wq3_90 : Jvm.Cond.selects "NoticeBoxes" ({ cls := "NoticeBoxes", name := "come", desc := "(II)I" } : Jvm.MethodName) ({ cls := "NoticeBoxes", name := "come", desc := "(II)I" } : Jvm.MethodName) ∈ wsA := List.mem_filter.mpr ⟨wt_3 (List.mem_of_getElem? (i := 90) rfl), rfl⟩
theorem wq3_91 : Jvm.Cond.code ({ cls := "NoticeBoxes", name := "come", desc := "(II)I" } : Jvm.MethodName) prog_1_method_17_code (4 : Nat) (Option.some Jvm.ClassFile.FieldType.int) ∈ wsA := List.mem_filter.mpr ⟨wt_3 (List.mem_of_getElem? (i := 91) rfl), rfl⟩
theorem wq3_92 : Jvm.Cond.methodLink "NoticeBoxes" (241 : Nat) ({ cls := "NoticeBoxes$Client", name := "arrive", desc := "(I)I" } : Jvm.MethodName) ∈ wsA := List.mem_filter.mpr ⟨wt_3 (List.mem_of_getElem? (i := 92) rfl), rfl⟩
theorem wq3_93 : Jvm.Cond.instanceMethod ({ cls := "NoticeBoxes$Client", name := "arrive", desc := "(I)I" } : Jvm.MethodName) ∈ wsA := List.mem_filter.mpr ⟨wt_3 (List.mem_of_getElem? (i := 93) rfl), rfl⟩
theorem wq3_94 : Jvm.Cond.selects "NoticeBoxes$Client" ({ cls := "NoticeBoxes$Client", name := "arrive", desc := "(I)I" } : Jvm.MethodName) ({ cls := "NoticeBoxes$Client", name := "arrive", desc := "(I)I" } : Jvm.MethodName) ∈ wsA := List.mem_filter.mpr ⟨wt_3 (List.mem_of_getElem? (i := 94) rfl), rfl⟩
theorem wq3_95 : Jvm.Cond.code ({ cls := "NoticeBoxes$Client", name := "arrive", desc := "(I)I" } : Jvm.MethodName) prog_5_method_6_code (4 : Nat) (Option.some Jvm.ClassFile.FieldType.int) ∈ wsA := List.mem_filter.mpr ⟨wt_3 (List.mem_of_getElem? (i := 95) rfl), rfl⟩
theorem wq3_96 : Jvm.Cond.methodLink "NoticeBoxesLaw" (82 : Nat) ({ cls := "NoticeBoxes", name := "part", desc := "()I" } : Jvm.MethodName) ∈ wsA := List.mem_filter.mpr ⟨wt_3 (List.mem_of_getElem? (i := 96) rfl), rfl⟩
theorem wq3_97 : Jvm.Cond.instanceMethod ({ cls := "NoticeBoxes", name := "part", desc := "()I" } : Jvm.MethodName) ∈ wsA := List.mem_filter.mpr ⟨wt_3 (List.mem_of_getElem? (i := 97) rfl), rfl⟩
theorem wq3_98 : Jvm.Cond.selects "NoticeBoxes" ({ cls := "NoticeBoxes", name := "part", desc := "()I" } : Jvm.MethodName) ({ cls := "NoticeBoxes", name := "part", desc := "()I" } : Jvm.MethodName) ∈ wsA := List.mem_filter.mpr ⟨wt_3 (List.mem_of_getElem? (i := 98) rfl), rfl⟩
theorem wq3_99 : Jvm.Cond.code ({ cls := "NoticeBoxes", name := "part", desc := "()I" } : Jvm.MethodName) prog_1_method_18_code (1 : Nat) (Option.some Jvm.ClassFile.FieldType.int) ∈ wsA := List.mem_filter.mpr ⟨wt_3 (List.mem_of_getElem? (i := 99) rfl), rfl⟩
theorem wq3_100 : Jvm.Cond.methodLink "NoticeBoxes" (244 : Nat) ({ cls := "NoticeBoxes$State", name := "removeLatestClient", desc := "()V" } : Jvm.MethodName) ∈ wsA := List.mem_filter.mpr ⟨wt_3 (List.mem_of_getElem? (i := 100) rfl), rfl⟩
theorem wq3_101 : Jvm.Cond.instanceMethod ({ cls := "NoticeBoxes$State", name := "removeLatestClient", desc := "()V" } : Jvm.MethodName) ∈ wsA := List.mem_filter.mpr ⟨wt_3 (List.mem_of_getElem? (i := 101) rfl), rfl⟩
theorem wq3_102 : Jvm.Cond.selects "NoticeBoxes$State" ({ cls := "NoticeBoxes$State", name := "removeLatestClient", desc := "()V" } : Jvm.MethodName) ({ cls := "NoticeBoxes$State", name := "removeLatestClient", desc := "()V" } : Jvm.MethodName) ∈ wsA := List.mem_filter.mpr ⟨wt_3 (List.mem_of_getElem? (i := 102) rfl), rfl⟩
theorem wq3_103 : Jvm.Cond.code ({ cls := "NoticeBoxes$State", name := "removeLatestClient", desc := "()V" } : Jvm.MethodName) prog_10_method_17_code (2 : Nat) (Option.none : Option Jvm.ClassFile.FieldType) ∈ wsA := List.mem_filter.mpr ⟨wt_3 (List.mem_of_getElem? (i := 103) rfl), rfl⟩
theorem wq3_104 : Jvm.Cond.methodLink "NoticeBoxes$State" (87 : Nat) ({ cls := "NoticeBoxes$State", name := "removeWish", desc := "(I)V" } : Jvm.MethodName) ∈ wsA := List.mem_filter.mpr ⟨wt_3 (List.mem_of_getElem? (i := 104) rfl), rfl⟩
theorem wq3_105 : Jvm.Cond.methodLink "NoticeBoxesLaw" (87 : Nat) ({ cls := "NoticeBoxes", name := "drift", desc := "(I)I" } : Jvm.MethodName) ∈ wsA := List.mem_filter.mpr ⟨wt_3 (List.mem_of_getElem? (i := 105) rfl), rfl⟩
theorem wq3_106 : Jvm.Cond.instanceMethod ({ cls := "NoticeBoxes", name := "drift", desc := "(I)I" } : Jvm.MethodName) ∈ wsA := List.mem_filter.mpr ⟨wt_3 (List.mem_of_getElem? (i := 106) rfl), rfl⟩
theorem wq3_107 : Jvm.Cond.selects "NoticeBoxes" ({ cls := "NoticeBoxes", name := "drift", desc := "(I)I" } : Jvm.MethodName) ({ cls := "NoticeBoxes", name := "drift", desc := "(I)I" } : Jvm.MethodName) ∈ wsA := List.mem_filter.mpr ⟨wt_3 (List.mem_of_getElem? (i := 107) rfl), rfl⟩
theorem wq3_108 : Jvm.Cond.code ({ cls := "NoticeBoxes", name := "drift", desc := "(I)I" } : Jvm.MethodName) prog_1_method_19_code (7 : Nat) (Option.some Jvm.ClassFile.FieldType.int) ∈ wsA := List.mem_filter.mpr ⟨wt_3 (List.mem_of_getElem? (i := 108) rfl), rfl⟩
theorem wq3_109 : Jvm.Cond.methodLink "NoticeBoxes" (247 : Nat) ({ cls := "NoticeBoxes$Draws", name := "draw", desc := "(I)I" } : Jvm.MethodName) ∈ wsA := List.mem_filter.mpr ⟨wt_3 (List.mem_of_getElem? (i := 109) rfl), rfl⟩
theorem wq3_110 : Jvm.Cond.instanceMethod ({ cls := "NoticeBoxes$Draws", name := "draw", desc := "(I)I" } : Jvm.MethodName) ∈ wsA := List.mem_filter.mpr ⟨wt_3 (List.mem_of_getElem? (i := 110) rfl), rfl⟩
theorem wq3_111 : Jvm.Cond.selects "NoticeBoxes$Draws" ({ cls := "NoticeBoxes$Draws", name := "draw", desc := "(I)I" } : Jvm.MethodName) ({ cls := "NoticeBoxes$Draws", name := "draw", desc := "(I)I" } : Jvm.MethodName) ∈ wsA := List.mem_filter.mpr ⟨wt_3 (List.mem_of_getElem? (i := 111) rfl), rfl⟩
theorem wq3_112 : Jvm.Cond.code ({ cls := "NoticeBoxes$Draws", name := "draw", desc := "(I)I" } : Jvm.MethodName) prog_6_method_2_code (2 : Nat) (Option.some Jvm.ClassFile.FieldType.int) ∈ wsA := List.mem_filter.mpr ⟨wt_3 (List.mem_of_getElem? (i := 112) rfl), rfl⟩
theorem wq3_113 : Jvm.Cond.constant "NoticeBoxes$Draws" (15 : Nat) (1103515245 : Int32) ∈ wsA := List.mem_filter.mpr ⟨wt_3 (List.mem_of_getElem? (i := 113) rfl), rfl⟩
theorem wq3_114 : Jvm.Cond.constant "NoticeBoxes$Draws" (16 : Nat) (2147483647 : Int32) ∈ wsA := List.mem_filter.mpr ⟨wt_3 (List.mem_of_getElem? (i := 114) rfl), rfl⟩
theorem wq3_115 : Jvm.Cond.constant "NoticeBoxes$Draws" (17 : Nat) (65536 : Int32) ∈ wsA := List.mem_filter.mpr ⟨wt_3 (List.mem_of_getElem? (i := 115) rfl), rfl⟩
theorem wq3_116 : Jvm.Cond.methodLink "NoticeBoxesLaw" (91 : Nat) ({ cls := "NoticeBoxes", name := "undo", desc := "(I)I" } : Jvm.MethodName) ∈ wsA := List.mem_filter.mpr ⟨wt_3 (List.mem_of_getElem? (i := 116) rfl), rfl⟩
theorem wq3_117 : Jvm.Cond.instanceMethod ({ cls := "NoticeBoxes", name := "undo", desc := "(I)I" } : Jvm.MethodName) ∈ wsA := List.mem_filter.mpr ⟨wt_3 (List.mem_of_getElem? (i := 117) rfl), rfl⟩
theorem wq3_118 : Jvm.Cond.selects "NoticeBoxes" ({ cls := "NoticeBoxes", name := "undo", desc := "(I)I" } : Jvm.MethodName) ({ cls := "NoticeBoxes", name := "undo", desc := "(I)I" } : Jvm.MethodName) ∈ wsA := List.mem_filter.mpr ⟨wt_3 (List.mem_of_getElem? (i := 118) rfl), rfl⟩
theorem wq3_119 : Jvm.Cond.code ({ cls := "NoticeBoxes", name := "undo", desc := "(I)I" } : Jvm.MethodName) prog_1_method_20_code (2 : Nat) (Option.some Jvm.ClassFile.FieldType.int) ∈ wsA := List.mem_filter.mpr ⟨wt_3 (List.mem_of_getElem? (i := 119) rfl), rfl⟩
theorem wq3_120 : Jvm.Cond.methodLink "NoticeBoxes" (250 : Nat) ({ cls := "NoticeBoxes$Past", name := "restore", desc := "(LNoticeBoxes$State;I)V" } : Jvm.MethodName) ∈ wsA := List.mem_filter.mpr ⟨wt_3 (List.mem_of_getElem? (i := 120) rfl), rfl⟩
theorem wq3_121 : Jvm.Cond.instanceMethod ({ cls := "NoticeBoxes$Past", name := "restore", desc := "(LNoticeBoxes$State;I)V" } : Jvm.MethodName) ∈ wsA := List.mem_filter.mpr ⟨wt_3 (List.mem_of_getElem? (i := 121) rfl), rfl⟩
theorem wq3_122 : Jvm.Cond.selects "NoticeBoxes$Past" ({ cls := "NoticeBoxes$Past", name := "restore", desc := "(LNoticeBoxes$State;I)V" } : Jvm.MethodName) ({ cls := "NoticeBoxes$Past", name := "restore", desc := "(LNoticeBoxes$State;I)V" } : Jvm.MethodName) ∈ wsA := List.mem_filter.mpr ⟨wt_3 (List.mem_of_getElem? (i := 122) rfl), rfl⟩
theorem wq3_123 : Jvm.Cond.code ({ cls := "NoticeBoxes$Past", name := "restore", desc := "(LNoticeBoxes$State;I)V" } : Jvm.MethodName) prog_9_method_3_code (3 : Nat) (Option.none : Option Jvm.ClassFile.FieldType) ∈ wsA := List.mem_filter.mpr ⟨wt_3 (List.mem_of_getElem? (i := 123) rfl), rfl⟩
theorem wq3_124 : Jvm.Cond.methodLink "NoticeBoxesLaw" (95 : Nat) ({ cls := "NoticeBoxes", name := "write", desc := "(II)I" } : Jvm.MethodName) ∈ wsA := List.mem_filter.mpr ⟨wt_3 (List.mem_of_getElem? (i := 124) rfl), rfl⟩
theorem wq3_125 : Jvm.Cond.instanceMethod ({ cls := "NoticeBoxes", name := "write", desc := "(II)I" } : Jvm.MethodName) ∈ wsA := List.mem_filter.mpr ⟨wt_3 (List.mem_of_getElem? (i := 125) rfl), rfl⟩
theorem wq3_126 : Jvm.Cond.selects "NoticeBoxes" ({ cls := "NoticeBoxes", name := "write", desc := "(II)I" } : Jvm.MethodName) ({ cls := "NoticeBoxes", name := "write", desc := "(II)I" } : Jvm.MethodName) ∈ wsA := List.mem_filter.mpr ⟨wt_3 (List.mem_of_getElem? (i := 126) rfl), rfl⟩
theorem wq3_127 : Jvm.Cond.code ({ cls := "NoticeBoxes", name := "write", desc := "(II)I" } : Jvm.MethodName) prog_1_method_21_code (3 : Nat) (Option.some Jvm.ClassFile.FieldType.int) ∈ wsA := List.mem_filter.mpr ⟨wt_3 (List.mem_of_getElem? (i := 127) rfl), rfl⟩
theorem wq3_128 : Jvm.Cond.methodLink "NoticeBoxes" (254 : Nat) ({ cls := "NoticeBoxes$Book", name := "add", desc := "(II)V" } : Jvm.MethodName) ∈ wsA := List.mem_filter.mpr ⟨wt_3 (List.mem_of_getElem? (i := 128) rfl), rfl⟩
theorem wq3_129 : Jvm.Cond.instanceMethod ({ cls := "NoticeBoxes$Book", name := "add", desc := "(II)V" } : Jvm.MethodName) ∈ wsA := List.mem_filter.mpr ⟨wt_3 (List.mem_of_getElem? (i := 129) rfl), rfl⟩
theorem wq3_130 : Jvm.Cond.selects "NoticeBoxes$Book" ({ cls := "NoticeBoxes$Book", name := "add", desc := "(II)V" } : Jvm.MethodName) ({ cls := "NoticeBoxes$Book", name := "add", desc := "(II)V" } : Jvm.MethodName) ∈ wsA := List.mem_filter.mpr ⟨wt_3 (List.mem_of_getElem? (i := 130) rfl), rfl⟩
theorem wq3_131 : Jvm.Cond.code ({ cls := "NoticeBoxes$Book", name := "add", desc := "(II)V" } : Jvm.MethodName) prog_2_method_2_code (3 : Nat) (Option.none : Option Jvm.ClassFile.FieldType) ∈ wsA := List.mem_filter.mpr ⟨wt_3 (List.mem_of_getElem? (i := 131) rfl), rfl⟩
theorem wq3_132 : Jvm.Cond.methodLink "NoticeBoxesLaw" (99 : Nat) ({ cls := "NoticeBoxes", name := "tear", desc := "()I" } : Jvm.MethodName) ∈ wsA := List.mem_filter.mpr ⟨wt_3 (List.mem_of_getElem? (i := 132) rfl), rfl⟩
theorem wq3_133 : Jvm.Cond.instanceMethod ({ cls := "NoticeBoxes", name := "tear", desc := "()I" } : Jvm.MethodName) ∈ wsA := List.mem_filter.mpr ⟨wt_3 (List.mem_of_getElem? (i := 133) rfl), rfl⟩
theorem wq3_134 : Jvm.Cond.selects "NoticeBoxes" ({ cls := "NoticeBoxes", name := "tear", desc := "()I" } : Jvm.MethodName) ({ cls := "NoticeBoxes", name := "tear", desc := "()I" } : Jvm.MethodName) ∈ wsA := List.mem_filter.mpr ⟨wt_3 (List.mem_of_getElem? (i := 134) rfl), rfl⟩
theorem wq3_135 : Jvm.Cond.code ({ cls := "NoticeBoxes", name := "tear", desc := "()I" } : Jvm.MethodName) prog_1_method_22_code (2 : Nat) (Option.some Jvm.ClassFile.FieldType.int) ∈ wsA := List.mem_filter.mpr ⟨wt_3 (List.mem_of_getElem? (i := 135) rfl), rfl⟩
theorem wq3_136 : Jvm.Cond.methodLink "NoticeBoxesLaw" (103 : Nat) ({ cls := "NoticeBoxes", name := "seed", desc := "(I)I" } : Jvm.MethodName) ∈ wsA := List.mem_filter.mpr ⟨wt_3 (List.mem_of_getElem? (i := 136) rfl), rfl⟩
theorem wq3_137 : Jvm.Cond.instanceMethod ({ cls := "NoticeBoxes", name := "seed", desc := "(I)I" } : Jvm.MethodName) ∈ wsA := List.mem_filter.mpr ⟨wt_3 (List.mem_of_getElem? (i := 137) rfl), rfl⟩
theorem wq3_138 : Jvm.Cond.selects "NoticeBoxes" ({ cls := "NoticeBoxes", name := "seed", desc := "(I)I" } : Jvm.MethodName) ({ cls := "NoticeBoxes", name := "seed", desc := "(I)I" } : Jvm.MethodName) ∈ wsA := List.mem_filter.mpr ⟨wt_3 (List.mem_of_getElem? (i := 138) rfl), rfl⟩
theorem wq3_139 : Jvm.Cond.code ({ cls := "NoticeBoxes", name := "seed", desc := "(I)I" } : Jvm.MethodName) prog_1_method_23_code (3 : Nat) (Option.some Jvm.ClassFile.FieldType.int) ∈ wsA := List.mem_filter.mpr ⟨wt_3 (List.mem_of_getElem? (i := 139) rfl), rfl⟩
theorem wq3_140 : Jvm.Cond.methodLink "NoticeBoxesLaw" (107 : Nat) ({ cls := "NoticeBoxes", name := "keep", desc := "(I)I" } : Jvm.MethodName) ∈ wsA := List.mem_filter.mpr ⟨wt_3 (List.mem_of_getElem? (i := 140) rfl), rfl⟩
theorem wq3_141 : Jvm.Cond.instanceMethod ({ cls := "NoticeBoxes", name := "keep", desc := "(I)I" } : Jvm.MethodName) ∈ wsA := List.mem_filter.mpr ⟨wt_3 (List.mem_of_getElem? (i := 141) rfl), rfl⟩
theorem wq3_142 : Jvm.Cond.selects "NoticeBoxes" ({ cls := "NoticeBoxes", name := "keep", desc := "(I)I" } : Jvm.MethodName) ({ cls := "NoticeBoxes", name := "keep", desc := "(I)I" } : Jvm.MethodName) ∈ wsA := List.mem_filter.mpr ⟨wt_3 (List.mem_of_getElem? (i := 142) rfl), rfl⟩
theorem wq3_143 : Jvm.Cond.code ({ cls := "NoticeBoxes", name := "keep", desc := "(I)I" } : Jvm.MethodName) prog_1_method_24_code (2 : Nat) (Option.some Jvm.ClassFile.FieldType.int) ∈ wsA := List.mem_filter.mpr ⟨wt_3 (List.mem_of_getElem? (i := 143) rfl), rfl⟩
theorem wq3_144 : Jvm.Cond.methodLink "NoticeBoxes" (258 : Nat) ({ cls := "NoticeBoxes$Image", name := "take", desc := "(LNoticeBoxes$State;LNoticeBoxes$Draws;)V" } : Jvm.MethodName) ∈ wsA := List.mem_filter.mpr ⟨wt_3 (List.mem_of_getElem? (i := 144) rfl), rfl⟩
theorem wq3_145 : Jvm.Cond.instanceMethod ({ cls := "NoticeBoxes$Image", name := "take", desc := "(LNoticeBoxes$State;LNoticeBoxes$Draws;)V" } : Jvm.MethodName) ∈ wsA := List.mem_filter.mpr ⟨wt_3 (List.mem_of_getElem? (i := 145) rfl), rfl⟩
theorem wq3_146 : Jvm.Cond.selects "NoticeBoxes$Image" ({ cls := "NoticeBoxes$Image", name := "take", desc := "(LNoticeBoxes$State;LNoticeBoxes$Draws;)V" } : Jvm.MethodName) ({ cls := "NoticeBoxes$Image", name := "take", desc := "(LNoticeBoxes$State;LNoticeBoxes$Draws;)V" } : Jvm.MethodName) ∈ wsA := List.mem_filter.mpr ⟨wt_3 (List.mem_of_getElem? (i := 146) rfl), rfl⟩
theorem wq3_147 : Jvm.Cond.code ({ cls := "NoticeBoxes$Image", name := "take", desc := "(LNoticeBoxes$State;LNoticeBoxes$Draws;)V" } : Jvm.MethodName) prog_7_method_2_code (3 : Nat) (Option.none : Option Jvm.ClassFile.FieldType) ∈ wsA := List.mem_filter.mpr ⟨wt_3 (List.mem_of_getElem? (i := 147) rfl), rfl⟩
theorem wq3_148 : Jvm.Cond.methodLink "NoticeBoxes$Image" (16 : Nat) ({ cls := "NoticeBoxes$State", name := "copyFrom", desc := "(LNoticeBoxes$State;)V" } : Jvm.MethodName) ∈ wsA := List.mem_filter.mpr ⟨wt_3 (List.mem_of_getElem? (i := 148) rfl), rfl⟩
theorem wq3_149 : Jvm.Cond.methodLink "NoticeBoxes" (262 : Nat) ({ cls := "NoticeBoxes$Past", name := "forget", desc := "()V" } : Jvm.MethodName) ∈ wsA := List.mem_filter.mpr ⟨wt_3 (List.mem_of_getElem? (i := 149) rfl), rfl⟩
theorem wq3_150 : Jvm.Cond.instanceMethod ({ cls := "NoticeBoxes$Past", name := "forget", desc := "()V" } : Jvm.MethodName) ∈ wsA := List.mem_filter.mpr ⟨wt_3 (List.mem_of_getElem? (i := 150) rfl), rfl⟩
theorem wq3_151 : Jvm.Cond.selects "NoticeBoxes$Past" ({ cls := "NoticeBoxes$Past", name := "forget", desc := "()V" } : Jvm.MethodName) ({ cls := "NoticeBoxes$Past", name := "forget", desc := "()V" } : Jvm.MethodName) ∈ wsA := List.mem_filter.mpr ⟨wt_3 (List.mem_of_getElem? (i := 151) rfl), rfl⟩
theorem wq3_152 : Jvm.Cond.code ({ cls := "NoticeBoxes$Past", name := "forget", desc := "()V" } : Jvm.MethodName) prog_9_method_4_code (1 : Nat) (Option.none : Option Jvm.ClassFile.FieldType) ∈ wsA := List.mem_filter.mpr ⟨wt_3 (List.mem_of_getElem? (i := 152) rfl), rfl⟩
theorem wq3_153 : Jvm.Cond.methodLink "NoticeBoxesLaw" (111 : Nat) ({ cls := "NoticeBoxes", name := "goBack", desc := "(I)I" } : Jvm.MethodName) ∈ wsA := List.mem_filter.mpr ⟨wt_3 (List.mem_of_getElem? (i := 153) rfl), rfl⟩
theorem wq3_154 : Jvm.Cond.instanceMethod ({ cls := "NoticeBoxes", name := "goBack", desc := "(I)I" } : Jvm.MethodName) ∈ wsA := List.mem_filter.mpr ⟨wt_3 (List.mem_of_getElem? (i := 154) rfl), rfl⟩
theorem wq3_155 : Jvm.Cond.selects "NoticeBoxes" ({ cls := "NoticeBoxes", name := "goBack", desc := "(I)I" } : Jvm.MethodName) ({ cls := "NoticeBoxes", name := "goBack", desc := "(I)I" } : Jvm.MethodName) ∈ wsA := List.mem_filter.mpr ⟨wt_3 (List.mem_of_getElem? (i := 155) rfl), rfl⟩
theorem wq3_156 : Jvm.Cond.code ({ cls := "NoticeBoxes", name := "goBack", desc := "(I)I" } : Jvm.MethodName) prog_1_method_25_code (2 : Nat) (Option.some Jvm.ClassFile.FieldType.int) ∈ wsA := List.mem_filter.mpr ⟨wt_3 (List.mem_of_getElem? (i := 156) rfl), rfl⟩
theorem wq3_157 : Jvm.Cond.methodLink "NoticeBoxes" (268 : Nat) ({ cls := "NoticeBoxes$Image", name := "giveBack", desc := "(LNoticeBoxes$State;LNoticeBoxes$Draws;)V" } : Jvm.MethodName) ∈ wsA := List.mem_filter.mpr ⟨wt_3 (List.mem_of_getElem? (i := 157) rfl), rfl⟩
theorem wq3_158 : Jvm.Cond.instanceMethod ({ cls := "NoticeBoxes$Image", name := "giveBack", desc := "(LNoticeBoxes$State;LNoticeBoxes$Draws;)V" } : Jvm.MethodName) ∈ wsA := List.mem_filter.mpr ⟨wt_3 (List.mem_of_getElem? (i := 158) rfl), rfl⟩
theorem wq3_159 : Jvm.Cond.selects "NoticeBoxes$Image" ({ cls := "NoticeBoxes$Image", name := "giveBack", desc := "(LNoticeBoxes$State;LNoticeBoxes$Draws;)V" } : Jvm.MethodName) ({ cls := "NoticeBoxes$Image", name := "giveBack", desc := "(LNoticeBoxes$State;LNoticeBoxes$Draws;)V" } : Jvm.MethodName) ∈ wsA := List.mem_filter.mpr ⟨wt_3 (List.mem_of_getElem? (i := 159) rfl), rfl⟩
theorem wq3_160 : Jvm.Cond.code ({ cls := "NoticeBoxes$Image", name := "giveBack", desc := "(LNoticeBoxes$State;LNoticeBoxes$Draws;)V" } : Jvm.MethodName) prog_7_method_3_code (3 : Nat) (Option.none : Option Jvm.ClassFile.FieldType) ∈ wsA := List.mem_filter.mpr ⟨wt_3 (List.mem_of_getElem? (i := 160) rfl), rfl⟩
theorem wq3_161 : Jvm.Cond.classLink "NoticeBoxesLaw" (10 : Nat) "NoticeBoxesModel" ∈ wsA := List.mem_filter.mpr ⟨wt_3 (List.mem_of_getElem? (i := 161) rfl), rfl⟩
theorem wq3_162 : Jvm.Cond.instantiable "NoticeBoxesModel" (19 : Nat) ∈ wsA := List.mem_filter.mpr ⟨wt_3 (List.mem_of_getElem? (i := 162) rfl), rfl⟩
theorem wq3_163 : Jvm.Cond.methodLink "NoticeBoxesLaw" (12 : Nat) ({ cls := "NoticeBoxesModel", name := "<init>", desc := "()V" } : Jvm.MethodName) ∈ wsA := List.mem_filter.mpr ⟨wt_3 (List.mem_of_getElem? (i := 163) rfl), rfl⟩
theorem wq3_164 : Jvm.Cond.instanceMethod ({ cls := "NoticeBoxesModel", name := "<init>", desc := "()V" } : Jvm.MethodName) ∈ wsA := List.mem_filter.mpr ⟨wt_3 (List.mem_of_getElem? (i := 164) rfl), rfl⟩
theorem wq3_165 : Jvm.Cond.code ({ cls := "NoticeBoxesModel", name := "<init>", desc := "()V" } : Jvm.MethodName) prog_13_method_1_code (1 : Nat) (Option.none : Option Jvm.ClassFile.FieldType) ∈ wsA := List.mem_filter.mpr ⟨wt_3 (List.mem_of_getElem? (i := 165) rfl), rfl⟩
theorem wq3_166 : Jvm.Cond.methodLink "NoticeBoxesModel" (1 : Nat) ({ cls := "java/lang/Object", name := "<init>", desc := "()V" } : Jvm.MethodName) ∈ wsA := List.mem_filter.mpr ⟨wt_3 (List.mem_of_getElem? (i := 166) rfl), rfl⟩
theorem wq3_167 : Jvm.Cond.fieldLink "NoticeBoxesModel" (7 : Nat) "NoticeBoxesModel" "s" "[I" ∈ wsA := List.mem_filter.mpr ⟨wt_3 (List.mem_of_getElem? (i := 167) rfl), rfl⟩
theorem wq3_168 : Jvm.Cond.fieldLink "NoticeBoxesModel" (176 : Nat) "NoticeBoxesModel" "seed" "I" ∈ wsA := List.mem_filter.mpr ⟨wt_3 (List.mem_of_getElem? (i := 168) rfl), rfl⟩
theorem wq3_169 : Jvm.Cond.fieldLink "NoticeBoxesModel" (13 : Nat) "NoticeBoxesModel" "past" "[I" ∈ wsA := List.mem_filter.mpr ⟨wt_3 (List.mem_of_getElem? (i := 169) rfl), rfl⟩
theorem wq3_170 : Jvm.Cond.fieldLink "NoticeBoxesModel" (173 : Nat) "NoticeBoxesModel" "known" "I" ∈ wsA := List.mem_filter.mpr ⟨wt_3 (List.mem_of_getElem? (i := 170) rfl), rfl⟩
theorem wq3_171 : Jvm.Cond.fieldLink "NoticeBoxesModel" (16 : Nat) "NoticeBoxesModel" "images" "[I" ∈ wsA := List.mem_filter.mpr ⟨wt_3 (List.mem_of_getElem? (i := 171) rfl), rfl⟩
theorem wq3_172 : Jvm.Cond.fieldLink "NoticeBoxesModel" (19 : Nat) "NoticeBoxesModel" "isKept" "[Z" ∈ wsA := List.mem_filter.mpr ⟨wt_3 (List.mem_of_getElem? (i := 172) rfl), rfl⟩
theorem wq3_173 : Jvm.Cond.fieldLink "NoticeBoxesModel" (23 : Nat) "NoticeBoxesModel" "bookClient" "[I" ∈ wsA := List.mem_filter.mpr ⟨wt_3 (List.mem_of_getElem? (i := 173) rfl), rfl⟩
theorem wq3_174 : Jvm.Cond.fieldLink "NoticeBoxesModel" (26 : Nat) "NoticeBoxesModel" "bookHad" "[I" ∈ wsA := List.mem_filter.mpr ⟨wt_3 (List.mem_of_getElem? (i := 174) rfl), rfl⟩
theorem wq3_175 : Jvm.Cond.fieldLink "NoticeBoxesModel" (160 : Nat) "NoticeBoxesModel" "written" "I" ∈ wsA := List.mem_filter.mpr ⟨wt_3 (List.mem_of_getElem? (i := 175) rfl), rfl⟩
theorem wq3_176 : Jvm.Cond.fieldLink "NoticeBoxesModel" (29 : Nat) "NoticeBoxesModel" "many" "[I" ∈ wsA := List.mem_filter.mpr ⟨wt_3 (List.mem_of_getElem? (i := 176) rfl), rfl⟩
theorem wq3_177 : Jvm.Cond.fieldLink "NoticeBoxesModel" (32 : Nat) "NoticeBoxesModel" "told" "[I" ∈ wsA := List.mem_filter.mpr ⟨wt_3 (List.mem_of_getElem? (i := 177) rfl), rfl⟩
theorem wq3_178 : Jvm.Cond.fieldLink "NoticeBoxesModel" (109 : Nat) "NoticeBoxesModel" "isLaid" "Z" ∈ wsA := List.mem_filter.mpr ⟨wt_3 (List.mem_of_getElem? (i := 178) rfl), rfl⟩
theorem wq3_179 : Jvm.Cond.fieldLink "NoticeBoxesModel" (35 : Nat) "NoticeBoxesModel" "box" "[I" ∈ wsA := List.mem_filter.mpr ⟨wt_3 (List.mem_of_getElem? (i := 179) rfl), rfl⟩
theorem wq3_180 : Jvm.Cond.fieldLink "NoticeBoxesModel" (56 : Nat) "NoticeBoxesModel" "boxes" "I" ∈ wsA := List.mem_filter.mpr ⟨wt_3 (List.mem_of_getElem? (i := 180) rfl), rfl⟩
theorem wq3_181 : Jvm.Cond.fieldLink "NoticeBoxesModel" (38 : Nat) "NoticeBoxesModel" "joined" "[I" ∈ wsA := List.mem_filter.mpr ⟨wt_3 (List.mem_of_getElem? (i := 181) rfl), rfl⟩
theorem wq3_182 : Jvm.Cond.fieldLink "NoticeBoxesModel" (123 : Nat) "NoticeBoxesModel" "places" "I" ∈ wsA := List.mem_filter.mpr ⟨wt_3 (List.mem_of_getElem? (i := 182) rfl), rfl⟩
theorem wq3_183 : Jvm.Cond.fieldLink "NoticeBoxesModel" (133 : Nat) "NoticeBoxesModel" "gets" "I" ∈ wsA := List.mem_filter.mpr ⟨wt_3 (List.mem_of_getElem? (i := 183) rfl), rfl⟩
theorem wq3_184 : Jvm.Cond.fieldLink "NoticeBoxesModel" (140 : Nat) "NoticeBoxesModel" "vain" "I" ∈ wsA := List.mem_filter.mpr ⟨wt_3 (List.mem_of_getElem? (i := 184) rfl), rfl⟩
theorem wq3_185 : Jvm.Cond.fieldLink "NoticeBoxesModel" (126 : Nat) "NoticeBoxesModel" "links" "I" ∈ wsA := List.mem_filter.mpr ⟨wt_3 (List.mem_of_getElem? (i := 185) rfl), rfl⟩
theorem wq3_186 : Jvm.Cond.laysFinal "NoticeBoxesModel" "NoticeBoxesModel" "s" "[I" ∈ wsA := List.mem_filter.mpr ⟨wt_3 (List.mem_of_getElem? (i := 186) rfl), rfl⟩
theorem wq3_187 : Jvm.Cond.soleField "NoticeBoxesModel" "s" ∈ lw_tbl := wt_3 (List.mem_of_getElem? (i := 187) rfl)
theorem wq3_188 : Jvm.Cond.lays "NoticeBoxesModel" "NoticeBoxesModel" "seed" "I" ∈ wsA := List.mem_filter.mpr ⟨wt_3 (List.mem_of_getElem? (i := 188) rfl), rfl⟩
theorem wq3_189 : Jvm.Cond.soleField "NoticeBoxesModel" "seed" ∈ lw_tbl := wt_3 (List.mem_of_getElem? (i := 189) rfl)
theorem wq3_190 : Jvm.Cond.laysFinal "NoticeBoxesModel" "NoticeBoxesModel" "past" "[I" ∈ wsA := List.mem_filter.mpr ⟨wt_3 (List.mem_of_getElem? (i := 190) rfl), rfl⟩
theorem wq3_191 : Jvm.Cond.soleField "NoticeBoxesModel" "past" ∈ lw_tbl := wt_3 (List.mem_of_getElem? (i := 191) rfl)
theorem wq3_192 : Jvm.Cond.lays "NoticeBoxesModel" "NoticeBoxesModel" "known" "I" ∈ wsA := List.mem_filter.mpr ⟨wt_3 (List.mem_of_getElem? (i := 192) rfl), rfl⟩
theorem wq3_193 : Jvm.Cond.soleField "NoticeBoxesModel" "known" ∈ lw_tbl := wt_3 (List.mem_of_getElem? (i := 193) rfl)
theorem wq3_194 : Jvm.Cond.laysFinal "NoticeBoxesModel" "NoticeBoxesModel" "images" "[I" ∈ wsA := List.mem_filter.mpr ⟨wt_3 (List.mem_of_getElem? (i := 194) rfl), rfl⟩
theorem wq3_195 : Jvm.Cond.soleField "NoticeBoxesModel" "images" ∈ lw_tbl := wt_3 (List.mem_of_getElem? (i := 195) rfl)
theorem wq3_196 : Jvm.Cond.laysFinal "NoticeBoxesModel" "NoticeBoxesModel" "isKept" "[Z" ∈ wsA := List.mem_filter.mpr ⟨wt_3 (List.mem_of_getElem? (i := 196) rfl), rfl⟩
theorem wq3_197 : Jvm.Cond.soleField "NoticeBoxesModel" "isKept" ∈ lw_tbl := wt_3 (List.mem_of_getElem? (i := 197) rfl)
theorem wq3_198 : Jvm.Cond.laysFinal "NoticeBoxesModel" "NoticeBoxesModel" "bookClient" "[I" ∈ wsA := List.mem_filter.mpr ⟨wt_3 (List.mem_of_getElem? (i := 198) rfl), rfl⟩
theorem wq3_199 : Jvm.Cond.soleField "NoticeBoxesModel" "bookClient" ∈ lw_tbl := wt_3 (List.mem_of_getElem? (i := 199) rfl)
theorem wq3_200 : Jvm.Cond.laysFinal "NoticeBoxesModel" "NoticeBoxesModel" "bookHad" "[I" ∈ wsA := List.mem_filter.mpr ⟨wt_3 (List.mem_of_getElem? (i := 200) rfl), rfl⟩
theorem wq3_201 : Jvm.Cond.soleField "NoticeBoxesModel" "bookHad" ∈ lw_tbl := wt_3 (List.mem_of_getElem? (i := 201) rfl)
theorem wq3_202 : Jvm.Cond.lays "NoticeBoxesModel" "NoticeBoxesModel" "written" "I" ∈ wsA := List.mem_filter.mpr ⟨wt_3 (List.mem_of_getElem? (i := 202) rfl), rfl⟩
theorem wq3_203 : Jvm.Cond.soleField "NoticeBoxesModel" "written" ∈ lw_tbl := wt_3 (List.mem_of_getElem? (i := 203) rfl)
theorem wq3_204 : Jvm.Cond.laysFinal "NoticeBoxesModel" "NoticeBoxesModel" "many" "[I" ∈ wsA := List.mem_filter.mpr ⟨wt_3 (List.mem_of_getElem? (i := 204) rfl), rfl⟩
theorem wq3_205 : Jvm.Cond.soleField "NoticeBoxesModel" "many" ∈ lw_tbl := wt_3 (List.mem_of_getElem? (i := 205) rfl)
theorem wq3_206 : Jvm.Cond.laysFinal "NoticeBoxesModel" "NoticeBoxesModel" "told" "[I" ∈ wsA := List.mem_filter.mpr ⟨wt_3 (List.mem_of_getElem? (i := 206) rfl), rfl⟩
theorem wq3_207 : Jvm.Cond.soleField "NoticeBoxesModel" "told" ∈ lw_tbl := wt_3 (List.mem_of_getElem? (i := 207) rfl)
theorem wq3_208 : Jvm.Cond.lays "NoticeBoxesModel" "NoticeBoxesModel" "isLaid" "Z" ∈ wsA := List.mem_filter.mpr ⟨wt_3 (List.mem_of_getElem? (i := 208) rfl), rfl⟩
theorem wq3_209 : Jvm.Cond.soleField "NoticeBoxesModel" "isLaid" ∈ lw_tbl := wt_3 (List.mem_of_getElem? (i := 209) rfl)
theorem wq3_210 : Jvm.Cond.laysFinal "NoticeBoxesModel" "NoticeBoxesModel" "box" "[I" ∈ wsA := List.mem_filter.mpr ⟨wt_3 (List.mem_of_getElem? (i := 210) rfl), rfl⟩
theorem wq3_211 : Jvm.Cond.soleField "NoticeBoxesModel" "box" ∈ lw_tbl := wt_3 (List.mem_of_getElem? (i := 211) rfl)
theorem wq3_212 : Jvm.Cond.lays "NoticeBoxesModel" "NoticeBoxesModel" "boxes" "I" ∈ wsA := List.mem_filter.mpr ⟨wt_3 (List.mem_of_getElem? (i := 212) rfl), rfl⟩
theorem wq3_213 : Jvm.Cond.soleField "NoticeBoxesModel" "boxes" ∈ lw_tbl := wt_3 (List.mem_of_getElem? (i := 213) rfl)
theorem wq3_214 : Jvm.Cond.laysFinal "NoticeBoxesModel" "NoticeBoxesModel" "joined" "[I" ∈ wsA := List.mem_filter.mpr ⟨wt_3 (List.mem_of_getElem? (i := 214) rfl), rfl⟩
theorem wq3_215 : Jvm.Cond.soleField "NoticeBoxesModel" "joined" ∈ lw_tbl := wt_3 (List.mem_of_getElem? (i := 215) rfl)
theorem wq3_216 : Jvm.Cond.lays "NoticeBoxesModel" "NoticeBoxesModel" "places" "I" ∈ wsA := List.mem_filter.mpr ⟨wt_3 (List.mem_of_getElem? (i := 216) rfl), rfl⟩
theorem wq3_217 : Jvm.Cond.soleField "NoticeBoxesModel" "places" ∈ lw_tbl := wt_3 (List.mem_of_getElem? (i := 217) rfl)
theorem wq3_218 : Jvm.Cond.lays "NoticeBoxesModel" "NoticeBoxesModel" "gets" "I" ∈ wsA := List.mem_filter.mpr ⟨wt_3 (List.mem_of_getElem? (i := 218) rfl), rfl⟩
theorem wq3_219 : Jvm.Cond.soleField "NoticeBoxesModel" "gets" ∈ lw_tbl := wt_3 (List.mem_of_getElem? (i := 219) rfl)
theorem wq3_220 : Jvm.Cond.lays "NoticeBoxesModel" "NoticeBoxesModel" "vain" "I" ∈ wsA := List.mem_filter.mpr ⟨wt_3 (List.mem_of_getElem? (i := 220) rfl), rfl⟩
theorem wq3_221 : Jvm.Cond.soleField "NoticeBoxesModel" "vain" ∈ lw_tbl := wt_3 (List.mem_of_getElem? (i := 221) rfl)
theorem wq3_222 : Jvm.Cond.lays "NoticeBoxesModel" "NoticeBoxesModel" "links" "I" ∈ wsA := List.mem_filter.mpr ⟨wt_3 (List.mem_of_getElem? (i := 222) rfl), rfl⟩
theorem wq3_223 : Jvm.Cond.soleField "NoticeBoxesModel" "links" ∈ lw_tbl := wt_3 (List.mem_of_getElem? (i := 223) rfl)
theorem wq3_224 : Jvm.Cond.superclass "NoticeBoxesModel" "java/lang/Object" ∈ lw_tbl := wt_3 (List.mem_of_getElem? (i := 224) rfl)
theorem wq3_225 : Jvm.Cond.arrayClass Jvm.ClassFile.FieldType.boolean ∈ wsA := List.mem_filter.mpr ⟨wt_3 (List.mem_of_getElem? (i := 225) rfl), rfl⟩
theorem wq3_226 : Jvm.Cond.methodLink "NoticeBoxesLaw" (17 : Nat) ({ cls := "NoticeBoxesModel", name := "told", desc := "(I)I" } : Jvm.MethodName) ∈ wsA := List.mem_filter.mpr ⟨wt_3 (List.mem_of_getElem? (i := 226) rfl), rfl⟩
theorem wq3_227 : Jvm.Cond.instanceMethod ({ cls := "NoticeBoxesModel", name := "told", desc := "(I)I" } : Jvm.MethodName) ∈ wsA := List.mem_filter.mpr ⟨wt_3 (List.mem_of_getElem? (i := 227) rfl), rfl⟩
theorem wq3_228 : Jvm.Cond.selects "NoticeBoxesModel" ({ cls := "NoticeBoxesModel", name := "told", desc := "(I)I" } : Jvm.MethodName) ({ cls := "NoticeBoxesModel", name := "told", desc := "(I)I" } : Jvm.MethodName) ∈ wsA := List.mem_filter.mpr ⟨wt_3 (List.mem_of_getElem? (i := 228) rfl), rfl⟩
theorem wq3_229 : Jvm.Cond.code ({ cls := "NoticeBoxesModel", name := "told", desc := "(I)I" } : Jvm.MethodName) prog_13_method_38_code (2 : Nat) (Option.some Jvm.ClassFile.FieldType.int) ∈ wsA := List.mem_filter.mpr ⟨wt_3 (List.mem_of_getElem? (i := 229) rfl), rfl⟩
theorem wq3_230 : Jvm.Cond.methodLink "NoticeBoxesModel" (166 : Nat) ({ cls := "NoticeBoxesModel", name := "allTold", desc := "()I" } : Jvm.MethodName) ∈ wsA := List.mem_filter.mpr ⟨wt_3 (List.mem_of_getElem? (i := 230) rfl), rfl⟩
theorem wq3_231 : Jvm.Cond.privateMethod ({ cls := "NoticeBoxesModel", name := "allTold", desc := "()I" } : Jvm.MethodName) ∈ lw_tbl := wt_3 (List.mem_of_getElem? (i := 231) rfl)
theorem wq3_232 : Jvm.Cond.instanceMethod ({ cls := "NoticeBoxesModel", name := "allTold", desc := "()I" } : Jvm.MethodName) ∈ wsA := List.mem_filter.mpr ⟨wt_3 (List.mem_of_getElem? (i := 232) rfl), rfl⟩
theorem wq3_233 : Jvm.Cond.code ({ cls := "NoticeBoxesModel", name := "allTold", desc := "()I" } : Jvm.MethodName) prog_13_method_36_code (3 : Nat) (Option.some Jvm.ClassFile.FieldType.int) ∈ wsA := List.mem_filter.mpr ⟨wt_3 (List.mem_of_getElem? (i := 233) rfl), rfl⟩
theorem wq3_234 : Jvm.Cond.methodLink "NoticeBoxesModel" (120 : Nat) ({ cls := "NoticeBoxesModel", name := "lays", desc := "()V" } : Jvm.MethodName) ∈ wsA := List.mem_filter.mpr ⟨wt_3 (List.mem_of_getElem? (i := 234) rfl), rfl⟩
theorem wq3_235 : Jvm.Cond.privateMethod ({ cls := "NoticeBoxesModel", name := "lays", desc := "()V" } : Jvm.MethodName) ∈ lw_tbl := wt_3 (List.mem_of_getElem? (i := 235) rfl)
theorem wq3_236 : Jvm.Cond.instanceMethod ({ cls := "NoticeBoxesModel", name := "lays", desc := "()V" } : Jvm.MethodName) ∈ wsA := List.mem_filter.mpr ⟨wt_3 (List.mem_of_getElem? (i := 236) rfl), rfl⟩
theorem wq3_237 : Jvm.Cond.code ({ cls := "NoticeBoxesModel", name := "lays", desc := "()V" } : Jvm.MethodName) prog_13_method_26_code (2 : Nat) (Option.none : Option Jvm.ClassFile.FieldType) ∈ wsA := List.mem_filter.mpr ⟨wt_3 (List.mem_of_getElem? (i := 237) rfl), rfl⟩
theorem wq3_238 : Jvm.Cond.methodLink "NoticeBoxesModel" (113 : Nat) ({ cls := "NoticeBoxesModel", name := "laysLink", desc := "(II)V" } : Jvm.MethodName) ∈ wsA := List.mem_filter.mpr ⟨wt_3 (List.mem_of_getElem? (i := 238) rfl), rfl⟩
theorem wq3_239 : Jvm.Cond.privateMethod ({ cls := "NoticeBoxesModel", name := "laysLink", desc := "(II)V" } : Jvm.MethodName) ∈ lw_tbl := wt_3 (List.mem_of_getElem? (i := 239) rfl)
theorem wq4_0 : Jvm.Cond.instanceMethod ({ cls := "NoticeBoxesModel", name := "laysLink", desc := "(II)V" } : Jvm.MethodName) ∈ wsA := List.mem_filter.mpr ⟨wt_4 (List.mem_of_getElem? (i := 0) rfl), rfl⟩
theorem wq4_1 : Jvm.Cond.code ({ cls := "NoticeBoxesModel", name := "laysLink", desc := "(II)V" } : Jvm.MethodName) prog_13_method_25_code (5 : Nat) (Option.none : Option Jvm.ClassFile.FieldType) ∈ wsA := List.mem_filter.mpr ⟨wt_4 (List.mem_of_getElem? (i := 1) rfl), rfl⟩
theorem wq4_2 : Jvm.Cond.methodLink "NoticeBoxesModel" (93 : Nat) ({ cls := "NoticeBoxesModel", name := "gathersWishes", desc := "(I)V" } : Jvm.MethodName) ∈ wsA := List.mem_filter.mpr ⟨wt_4 (List.mem_of_getElem? (i := 2) rfl), rfl⟩
theorem wq4_3 : Jvm.Cond.privateMethod ({ cls := "NoticeBoxesModel", name := "gathersWishes", desc := "(I)V" } : Jvm.MethodName) ∈ lw_tbl := wt_4 (List.mem_of_getElem? (i := 3) rfl)
theorem wq4_4 : Jvm.Cond.instanceMethod ({ cls := "NoticeBoxesModel", name := "gathersWishes", desc := "(I)V" } : Jvm.MethodName) ∈ wsA := List.mem_filter.mpr ⟨wt_4 (List.mem_of_getElem? (i := 4) rfl), rfl⟩
theorem wq4_5 : Jvm.Cond.code ({ cls := "NoticeBoxesModel", name := "gathersWishes", desc := "(I)V" } : Jvm.MethodName) prog_13_method_22_code (4 : Nat) (Option.none : Option Jvm.ClassFile.FieldType) ∈ wsA := List.mem_filter.mpr ⟨wt_4 (List.mem_of_getElem? (i := 5) rfl), rfl⟩
theorem wq4_6 : Jvm.Cond.methodLink "NoticeBoxesModel" (87 : Nat) ({ cls := "NoticeBoxesModel", name := "wish", desc := "(II)I" } : Jvm.MethodName) ∈ wsA := List.mem_filter.mpr ⟨wt_4 (List.mem_of_getElem? (i := 6) rfl), rfl⟩
theorem wq4_7 : Jvm.Cond.privateMethod ({ cls := "NoticeBoxesModel", name := "wish", desc := "(II)I" } : Jvm.MethodName) ∈ lw_tbl := wt_4 (List.mem_of_getElem? (i := 7) rfl)
theorem wq4_8 : Jvm.Cond.instanceMethod ({ cls := "NoticeBoxesModel", name := "wish", desc := "(II)I" } : Jvm.MethodName) ∈ wsA := List.mem_filter.mpr ⟨wt_4 (List.mem_of_getElem? (i := 8) rfl), rfl⟩
theorem wq4_9 : Jvm.Cond.code ({ cls := "NoticeBoxesModel", name := "wish", desc := "(II)I" } : Jvm.MethodName) prog_13_method_5_code (3 : Nat) (Option.some Jvm.ClassFile.FieldType.int) ∈ wsA := List.mem_filter.mpr ⟨wt_4 (List.mem_of_getElem? (i := 9) rfl), rfl⟩
theorem wq4_10 : Jvm.Cond.methodLink "NoticeBoxesModel" (90 : Nat) ({ cls := "NoticeBoxesModel", name := "of", desc := "(II)I" } : Jvm.MethodName) ∈ wsA := List.mem_filter.mpr ⟨wt_4 (List.mem_of_getElem? (i := 10) rfl), rfl⟩
theorem wq4_11 : Jvm.Cond.privateMethod ({ cls := "NoticeBoxesModel", name := "of", desc := "(II)I" } : Jvm.MethodName) ∈ lw_tbl := wt_4 (List.mem_of_getElem? (i := 11) rfl)
theorem wq4_12 : Jvm.Cond.instanceMethod ({ cls := "NoticeBoxesModel", name := "of", desc := "(II)I" } : Jvm.MethodName) ∈ wsA := List.mem_filter.mpr ⟨wt_4 (List.mem_of_getElem? (i := 12) rfl), rfl⟩
theorem wq4_13 : Jvm.Cond.code ({ cls := "NoticeBoxesModel", name := "of", desc := "(II)I" } : Jvm.MethodName) prog_13_method_3_code (3 : Nat) (Option.some Jvm.ClassFile.FieldType.int) ∈ wsA := List.mem_filter.mpr ⟨wt_4 (List.mem_of_getElem? (i := 13) rfl), rfl⟩
theorem wq4_14 : Jvm.Cond.methodLink "NoticeBoxesModel" (84 : Nat) ({ cls := "NoticeBoxesModel", name := "comes", desc := "()V" } : Jvm.MethodName) ∈ wsA := List.mem_filter.mpr ⟨wt_4 (List.mem_of_getElem? (i := 14) rfl), rfl⟩
theorem wq4_15 : Jvm.Cond.privateMethod ({ cls := "NoticeBoxesModel", name := "comes", desc := "()V" } : Jvm.MethodName) ∈ lw_tbl := wt_4 (List.mem_of_getElem? (i := 15) rfl)
theorem wq4_16 : Jvm.Cond.instanceMethod ({ cls := "NoticeBoxesModel", name := "comes", desc := "()V" } : Jvm.MethodName) ∈ wsA := List.mem_filter.mpr ⟨wt_4 (List.mem_of_getElem? (i := 16) rfl), rfl⟩
theorem wq4_17 : Jvm.Cond.code ({ cls := "NoticeBoxesModel", name := "comes", desc := "()V" } : Jvm.MethodName) prog_13_method_19_code (5 : Nat) (Option.none : Option Jvm.ClassFile.FieldType) ∈ wsA := List.mem_filter.mpr ⟨wt_4 (List.mem_of_getElem? (i := 17) rfl), rfl⟩
theorem wq4_18 : Jvm.Cond.methodLink "NoticeBoxesModel" (67 : Nat) ({ cls := "NoticeBoxesModel", name := "covers", desc := "(II)Z" } : Jvm.MethodName) ∈ wsA := List.mem_filter.mpr ⟨wt_4 (List.mem_of_getElem? (i := 18) rfl), rfl⟩
theorem wq4_19 : Jvm.Cond.privateMethod ({ cls := "NoticeBoxesModel", name := "covers", desc := "(II)Z" } : Jvm.MethodName) ∈ lw_tbl := wt_4 (List.mem_of_getElem? (i := 19) rfl)
theorem wq4_20 : Jvm.Cond.instanceMethod ({ cls := "NoticeBoxesModel", name := "covers", desc := "(II)Z" } : Jvm.MethodName) ∈ wsA := List.mem_filter.mpr ⟨wt_4 (List.mem_of_getElem? (i := 20) rfl), rfl⟩
theorem wq4_21 : Jvm.Cond.code ({ cls := "NoticeBoxesModel", name := "covers", desc := "(II)Z" } : Jvm.MethodName) prog_13_method_13_code (5 : Nat) (Option.some Jvm.ClassFile.FieldType.boolean) ∈ wsA := List.mem_filter.mpr ⟨wt_4 (List.mem_of_getElem? (i := 21) rfl), rfl⟩
theorem wq4_22 : Jvm.Cond.methodLink "NoticeBoxesModel" (49 : Nat) ({ cls := "NoticeBoxesModel", name := "at", desc := "(II)I" } : Jvm.MethodName) ∈ wsA := List.mem_filter.mpr ⟨wt_4 (List.mem_of_getElem? (i := 22) rfl), rfl⟩
theorem wq4_23 : Jvm.Cond.privateMethod ({ cls := "NoticeBoxesModel", name := "at", desc := "(II)I" } : Jvm.MethodName) ∈ lw_tbl := wt_4 (List.mem_of_getElem? (i := 23) rfl)
theorem wq4_24 : Jvm.Cond.instanceMethod ({ cls := "NoticeBoxesModel", name := "at", desc := "(II)I" } : Jvm.MethodName) ∈ wsA := List.mem_filter.mpr ⟨wt_4 (List.mem_of_getElem? (i := 24) rfl), rfl⟩
theorem wq4_25 : Jvm.Cond.code ({ cls := "NoticeBoxesModel", name := "at", desc := "(II)I" } : Jvm.MethodName) prog_13_method_10_code (3 : Nat) (Option.some Jvm.ClassFile.FieldType.int) ∈ wsA := List.mem_filter.mpr ⟨wt_4 (List.mem_of_getElem? (i := 25) rfl), rfl⟩
theorem wq4_26 : Jvm.Cond.methodLink "NoticeBoxesModel" (63 : Nat) ({ cls := "NoticeBoxesModel", name := "copies", desc := "(II)V" } : Jvm.MethodName) ∈ wsA := List.mem_filter.mpr ⟨wt_4 (List.mem_of_getElem? (i := 26) rfl), rfl⟩
theorem wq4_27 : Jvm.Cond.privateMethod ({ cls := "NoticeBoxesModel", name := "copies", desc := "(II)V" } : Jvm.MethodName) ∈ lw_tbl := wt_4 (List.mem_of_getElem? (i := 27) rfl)
theorem wq4_28 : Jvm.Cond.instanceMethod ({ cls := "NoticeBoxesModel", name := "copies", desc := "(II)V" } : Jvm.MethodName) ∈ wsA := List.mem_filter.mpr ⟨wt_4 (List.mem_of_getElem? (i := 28) rfl), rfl⟩
theorem wq4_29 : Jvm.Cond.code ({ cls := "NoticeBoxesModel", name := "copies", desc := "(II)V" } : Jvm.MethodName) prog_13_method_16_code (4 : Nat) (Option.none : Option Jvm.ClassFile.FieldType) ∈ wsA := List.mem_filter.mpr ⟨wt_4 (List.mem_of_getElem? (i := 29) rfl), rfl⟩
theorem wq4_30 : Jvm.Cond.methodLink "NoticeBoxesModel" (71 : Nat) ({ cls := "NoticeBoxesModel", name := "settles", desc := "()V" } : Jvm.MethodName) ∈ wsA := List.mem_filter.mpr ⟨wt_4 (List.mem_of_getElem? (i := 30) rfl), rfl⟩
theorem wq4_31 : Jvm.Cond.privateMethod ({ cls := "NoticeBoxesModel", name := "settles", desc := "()V" } : Jvm.MethodName) ∈ lw_tbl := wt_4 (List.mem_of_getElem? (i := 31) rfl)
theorem wq4_32 : Jvm.Cond.instanceMethod ({ cls := "NoticeBoxesModel", name := "settles", desc := "()V" } : Jvm.MethodName) ∈ wsA := List.mem_filter.mpr ⟨wt_4 (List.mem_of_getElem? (i := 32) rfl), rfl⟩
theorem wq4_33 : Jvm.Cond.code ({ cls := "NoticeBoxesModel", name := "settles", desc := "()V" } : Jvm.MethodName) prog_13_method_17_code (4 : Nat) (Option.none : Option Jvm.ClassFile.FieldType) ∈ wsA := List.mem_filter.mpr ⟨wt_4 (List.mem_of_getElem? (i := 33) rfl), rfl⟩
theorem wq4_34 : Jvm.Cond.methodLink "NoticeBoxesModel" (60 : Nat) ({ cls := "NoticeBoxesModel", name := "order", desc := "(II)I" } : Jvm.MethodName) ∈ wsA := List.mem_filter.mpr ⟨wt_4 (List.mem_of_getElem? (i := 34) rfl), rfl⟩
theorem wq4_35 : Jvm.Cond.privateMethod ({ cls := "NoticeBoxesModel", name := "order", desc := "(II)I" } : Jvm.MethodName) ∈ lw_tbl := wt_4 (List.mem_of_getElem? (i := 35) rfl)
theorem wq4_36 : Jvm.Cond.instanceMethod ({ cls := "NoticeBoxesModel", name := "order", desc := "(II)I" } : Jvm.MethodName) ∈ wsA := List.mem_filter.mpr ⟨wt_4 (List.mem_of_getElem? (i := 36) rfl), rfl⟩
theorem wq4_37 : Jvm.Cond.code ({ cls := "NoticeBoxesModel", name := "order", desc := "(II)I" } : Jvm.MethodName) prog_13_method_15_code (5 : Nat) (Option.some Jvm.ClassFile.FieldType.int) ∈ wsA := List.mem_filter.mpr ⟨wt_4 (List.mem_of_getElem? (i := 37) rfl), rfl⟩
theorem wq4_38 : Jvm.Cond.methodLink "NoticeBoxesModel" (97 : Nat) ({ cls := "NoticeBoxesModel", name := "areNeighbours", desc := "(II)Z" } : Jvm.MethodName) ∈ wsA := List.mem_filter.mpr ⟨wt_4 (List.mem_of_getElem? (i := 38) rfl), rfl⟩
theorem wq4_39 : Jvm.Cond.privateMethod ({ cls := "NoticeBoxesModel", name := "areNeighbours", desc := "(II)Z" } : Jvm.MethodName) ∈ lw_tbl := wt_4 (List.mem_of_getElem? (i := 39) rfl)
theorem wq4_40 : Jvm.Cond.instanceMethod ({ cls := "NoticeBoxesModel", name := "areNeighbours", desc := "(II)Z" } : Jvm.MethodName) ∈ wsA := List.mem_filter.mpr ⟨wt_4 (List.mem_of_getElem? (i := 40) rfl), rfl⟩
theorem wq4_41 : Jvm.Cond.code ({ cls := "NoticeBoxesModel", name := "areNeighbours", desc := "(II)Z" } : Jvm.MethodName) prog_13_method_9_code (3 : Nat) (Option.some Jvm.ClassFile.FieldType.boolean) ∈ wsA := List.mem_filter.mpr ⟨wt_4 (List.mem_of_getElem? (i := 41) rfl), rfl⟩
theorem wq4_42 : Jvm.Cond.methodLink "NoticeBoxesModel" (45 : Nat) ({ cls := "NoticeBoxesModel", name := "isBroker", desc := "(I)Z" } : Jvm.MethodName) ∈ wsA := List.mem_filter.mpr ⟨wt_4 (List.mem_of_getElem? (i := 42) rfl), rfl⟩
theorem wq4_43 : Jvm.Cond.privateMethod ({ cls := "NoticeBoxesModel", name := "isBroker", desc := "(I)Z" } : Jvm.MethodName) ∈ lw_tbl := wt_4 (List.mem_of_getElem? (i := 43) rfl)
theorem wq4_44 : Jvm.Cond.instanceMethod ({ cls := "NoticeBoxesModel", name := "isBroker", desc := "(I)Z" } : Jvm.MethodName) ∈ wsA := List.mem_filter.mpr ⟨wt_4 (List.mem_of_getElem? (i := 44) rfl), rfl⟩
theorem wq4_45 : Jvm.Cond.code ({ cls := "NoticeBoxesModel", name := "isBroker", desc := "(I)Z" } : Jvm.MethodName) prog_13_method_6_code (2 : Nat) (Option.some Jvm.ClassFile.FieldType.boolean) ∈ wsA := List.mem_filter.mpr ⟨wt_4 (List.mem_of_getElem? (i := 45) rfl), rfl⟩
theorem wq4_46 : Jvm.Cond.methodLink "NoticeBoxesModel" (41 : Nat) ({ cls := "NoticeBoxesModel", name := "in", desc := "(III)Z" } : Jvm.MethodName) ∈ wsA := List.mem_filter.mpr ⟨wt_4 (List.mem_of_getElem? (i := 46) rfl), rfl⟩
theorem wq4_47 : Jvm.Cond.static ({ cls := "NoticeBoxesModel", name := "in", desc := "(III)Z" } : Jvm.MethodName) ∈ wsA := List.mem_filter.mpr ⟨wt_4 (List.mem_of_getElem? (i := 47) rfl), rfl⟩
theorem wq4_48 : Jvm.Cond.code ({ cls := "NoticeBoxesModel", name := "in", desc := "(III)Z" } : Jvm.MethodName) prog_13_method_2_code (3 : Nat) (Option.some Jvm.ClassFile.FieldType.boolean) ∈ wsA := List.mem_filter.mpr ⟨wt_4 (List.mem_of_getElem? (i := 48) rfl), rfl⟩
theorem wq4_49 : Jvm.Cond.methodLink "NoticeBoxesModel" (100 : Nat) ({ cls := "NoticeBoxesModel", name := "linkOf", desc := "(II)I" } : Jvm.MethodName) ∈ wsA := List.mem_filter.mpr ⟨wt_4 (List.mem_of_getElem? (i := 49) rfl), rfl⟩
theorem wq4_50 : Jvm.Cond.privateMethod ({ cls := "NoticeBoxesModel", name := "linkOf", desc := "(II)I" } : Jvm.MethodName) ∈ lw_tbl := wt_4 (List.mem_of_getElem? (i := 50) rfl)
theorem wq4_51 : Jvm.Cond.instanceMethod ({ cls := "NoticeBoxesModel", name := "linkOf", desc := "(II)I" } : Jvm.MethodName) ∈ wsA := List.mem_filter.mpr ⟨wt_4 (List.mem_of_getElem? (i := 51) rfl), rfl⟩
theorem wq4_52 : Jvm.Cond.code ({ cls := "NoticeBoxesModel", name := "linkOf", desc := "(II)I" } : Jvm.MethodName) prog_13_method_24_code (3 : Nat) (Option.some Jvm.ClassFile.FieldType.int) ∈ wsA := List.mem_filter.mpr ⟨wt_4 (List.mem_of_getElem? (i := 52) rfl), rfl⟩
theorem wq4_53 : Jvm.Cond.methodLink "NoticeBoxesModel" (103 : Nat) ({ cls := "NoticeBoxesModel", name := "gathersLink", desc := "(I)V" } : Jvm.MethodName) ∈ wsA := List.mem_filter.mpr ⟨wt_4 (List.mem_of_getElem? (i := 53) rfl), rfl⟩
theorem wq4_54 : Jvm.Cond.privateMethod ({ cls := "NoticeBoxesModel", name := "gathersLink", desc := "(I)V" } : Jvm.MethodName) ∈ lw_tbl := wt_4 (List.mem_of_getElem? (i := 54) rfl)
theorem wq4_55 : Jvm.Cond.instanceMethod ({ cls := "NoticeBoxesModel", name := "gathersLink", desc := "(I)V" } : Jvm.MethodName) ∈ wsA := List.mem_filter.mpr ⟨wt_4 (List.mem_of_getElem? (i := 55) rfl), rfl⟩
theorem wq4_56 : Jvm.Cond.code ({ cls := "NoticeBoxesModel", name := "gathersLink", desc := "(I)V" } : Jvm.MethodName) prog_13_method_23_code (4 : Nat) (Option.none : Option Jvm.ClassFile.FieldType) ∈ wsA := List.mem_filter.mpr ⟨wt_4 (List.mem_of_getElem? (i := 56) rfl), rfl⟩
theorem wq4_57 : Jvm.Cond.methodLink "NoticeBoxesModel" (106 : Nat) ({ cls := "NoticeBoxesModel", name := "joins", desc := "()V" } : Jvm.MethodName) ∈ wsA := List.mem_filter.mpr ⟨wt_4 (List.mem_of_getElem? (i := 57) rfl), rfl⟩
theorem wq4_58 : Jvm.Cond.privateMethod ({ cls := "NoticeBoxesModel", name := "joins", desc := "()V" } : Jvm.MethodName) ∈ lw_tbl := wt_4 (List.mem_of_getElem? (i := 58) rfl)
theorem wq4_59 : Jvm.Cond.instanceMethod ({ cls := "NoticeBoxesModel", name := "joins", desc := "()V" } : Jvm.MethodName) ∈ wsA := List.mem_filter.mpr ⟨wt_4 (List.mem_of_getElem? (i := 59) rfl), rfl⟩
theorem wq4_60 : Jvm.Cond.code ({ cls := "NoticeBoxesModel", name := "joins", desc := "()V" } : Jvm.MethodName) prog_13_method_21_code (7 : Nat) (Option.none : Option Jvm.ClassFile.FieldType) ∈ wsA := List.mem_filter.mpr ⟨wt_4 (List.mem_of_getElem? (i := 60) rfl), rfl⟩
theorem wq4_61 : Jvm.Cond.methodLink "NoticeBoxesModel" (81 : Nat) ({ cls := "NoticeBoxesModel", name := "wasteOf", desc := "(II)I" } : Jvm.MethodName) ∈ wsA := List.mem_filter.mpr ⟨wt_4 (List.mem_of_getElem? (i := 61) rfl), rfl⟩
theorem wq4_62 : Jvm.Cond.privateMethod ({ cls := "NoticeBoxesModel", name := "wasteOf", desc := "(II)I" } : Jvm.MethodName) ∈ lw_tbl := wt_4 (List.mem_of_getElem? (i := 62) rfl)
theorem wq4_63 : Jvm.Cond.instanceMethod ({ cls := "NoticeBoxesModel", name := "wasteOf", desc := "(II)I" } : Jvm.MethodName) ∈ wsA := List.mem_filter.mpr ⟨wt_4 (List.mem_of_getElem? (i := 63) rfl), rfl⟩
theorem wq4_64 : Jvm.Cond.code ({ cls := "NoticeBoxesModel", name := "wasteOf", desc := "(II)I" } : Jvm.MethodName) prog_13_method_20_code (7 : Nat) (Option.some Jvm.ClassFile.FieldType.int) ∈ wsA := List.mem_filter.mpr ⟨wt_4 (List.mem_of_getElem? (i := 64) rfl), rfl⟩
theorem wq4_65 : Jvm.Cond.methodLink "NoticeBoxesModel" (53 : Nat) ({ cls := "NoticeBoxesModel", name := "spread", desc := "(II)I" } : Jvm.MethodName) ∈ wsA := List.mem_filter.mpr ⟨wt_4 (List.mem_of_getElem? (i := 65) rfl), rfl⟩
theorem wq4_66 : Jvm.Cond.static ({ cls := "NoticeBoxesModel", name := "spread", desc := "(II)I" } : Jvm.MethodName) ∈ wsA := List.mem_filter.mpr ⟨wt_4 (List.mem_of_getElem? (i := 66) rfl), rfl⟩
theorem wq4_67 : Jvm.Cond.code ({ cls := "NoticeBoxesModel", name := "spread", desc := "(II)I" } : Jvm.MethodName) prog_13_method_11_code (2 : Nat) (Option.some Jvm.ClassFile.FieldType.int) ∈ wsA := List.mem_filter.mpr ⟨wt_4 (List.mem_of_getElem? (i := 67) rfl), rfl⟩
theorem wq4_68 : Jvm.Cond.methodLink "NoticeBoxesModel" (74 : Nat) ({ cls := "NoticeBoxesModel", name := "sizeOf", desc := "(I)I" } : Jvm.MethodName) ∈ wsA := List.mem_filter.mpr ⟨wt_4 (List.mem_of_getElem? (i := 68) rfl), rfl⟩
theorem wq4_69 : Jvm.Cond.privateMethod ({ cls := "NoticeBoxesModel", name := "sizeOf", desc := "(I)I" } : Jvm.MethodName) ∈ lw_tbl := wt_4 (List.mem_of_getElem? (i := 69) rfl)
theorem wq4_70 : Jvm.Cond.instanceMethod ({ cls := "NoticeBoxesModel", name := "sizeOf", desc := "(I)I" } : Jvm.MethodName) ∈ wsA := List.mem_filter.mpr ⟨wt_4 (List.mem_of_getElem? (i := 70) rfl), rfl⟩
theorem wq4_71 : Jvm.Cond.code ({ cls := "NoticeBoxesModel", name := "sizeOf", desc := "(I)I" } : Jvm.MethodName) prog_13_method_12_code (2 : Nat) (Option.some Jvm.ClassFile.FieldType.int) ∈ wsA := List.mem_filter.mpr ⟨wt_4 (List.mem_of_getElem? (i := 71) rfl), rfl⟩
theorem wq4_72 : Jvm.Cond.methodLink "NoticeBoxesModel" (78 : Nat) ({ cls := "NoticeBoxesModel", name := "shared", desc := "(II)I" } : Jvm.MethodName) ∈ wsA := List.mem_filter.mpr ⟨wt_4 (List.mem_of_getElem? (i := 72) rfl), rfl⟩
theorem wq4_73 : Jvm.Cond.privateMethod ({ cls := "NoticeBoxesModel", name := "shared", desc := "(II)I" } : Jvm.MethodName) ∈ lw_tbl := wt_4 (List.mem_of_getElem? (i := 73) rfl)
theorem wq4_74 : Jvm.Cond.instanceMethod ({ cls := "NoticeBoxesModel", name := "shared", desc := "(II)I" } : Jvm.MethodName) ∈ wsA := List.mem_filter.mpr ⟨wt_4 (List.mem_of_getElem? (i := 74) rfl), rfl⟩
theorem wq4_75 : Jvm.Cond.code ({ cls := "NoticeBoxesModel", name := "shared", desc := "(II)I" } : Jvm.MethodName) prog_13_method_14_code (7 : Nat) (Option.some Jvm.ClassFile.FieldType.int) ∈ wsA := List.mem_filter.mpr ⟨wt_4 (List.mem_of_getElem? (i := 75) rfl), rfl⟩
theorem wq4_76 : Jvm.Cond.methodLink "NoticeBoxesModel" (170 : Nat) ({ cls := "NoticeBoxesModel", name := "wrong", desc := "()I" } : Jvm.MethodName) ∈ wsA := List.mem_filter.mpr ⟨wt_4 (List.mem_of_getElem? (i := 76) rfl), rfl⟩
theorem wq4_77 : Jvm.Cond.privateMethod ({ cls := "NoticeBoxesModel", name := "wrong", desc := "()I" } : Jvm.MethodName) ∈ lw_tbl := wt_4 (List.mem_of_getElem? (i := 77) rfl)
theorem wq4_78 : Jvm.Cond.instanceMethod ({ cls := "NoticeBoxesModel", name := "wrong", desc := "()I" } : Jvm.MethodName) ∈ wsA := List.mem_filter.mpr ⟨wt_4 (List.mem_of_getElem? (i := 78) rfl), rfl⟩
theorem wq4_79 : Jvm.Cond.code ({ cls := "NoticeBoxesModel", name := "wrong", desc := "()I" } : Jvm.MethodName) prog_13_method_37_code (3 : Nat) (Option.some Jvm.ClassFile.FieldType.int) ∈ wsA := List.mem_filter.mpr ⟨wt_4 (List.mem_of_getElem? (i := 79) rfl), rfl⟩
theorem wq4_80 : Jvm.Cond.methodLink "NoticeBoxesModel" (163 : Nat) ({ cls := "NoticeBoxesModel", name := "isClient", desc := "(I)Z" } : Jvm.MethodName) ∈ wsA := List.mem_filter.mpr ⟨wt_4 (List.mem_of_getElem? (i := 80) rfl), rfl⟩
theorem wq4_81 : Jvm.Cond.privateMethod ({ cls := "NoticeBoxesModel", name := "isClient", desc := "(I)Z" } : Jvm.MethodName) ∈ lw_tbl := wt_4 (List.mem_of_getElem? (i := 81) rfl)
theorem wq4_82 : Jvm.Cond.instanceMethod ({ cls := "NoticeBoxesModel", name := "isClient", desc := "(I)Z" } : Jvm.MethodName) ∈ wsA := List.mem_filter.mpr ⟨wt_4 (List.mem_of_getElem? (i := 82) rfl), rfl⟩
theorem wq4_83 : Jvm.Cond.code ({ cls := "NoticeBoxesModel", name := "isClient", desc := "(I)Z" } : Jvm.MethodName) prog_13_method_7_code (2 : Nat) (Option.some Jvm.ClassFile.FieldType.boolean) ∈ wsA := List.mem_filter.mpr ⟨wt_4 (List.mem_of_getElem? (i := 83) rfl), rfl⟩
theorem wq4_84 : Jvm.Cond.constant "NoticeBoxesModel" (179 : Nat) (-1000000002 : Int32) ∈ wsA := List.mem_filter.mpr ⟨wt_4 (List.mem_of_getElem? (i := 84) rfl), rfl⟩
theorem wq4_85 : Jvm.Cond.methodLink "NoticeBoxesLaw" (22 : Nat) ({ cls := "NoticeBoxesModel", name := "brokerAt", desc := "(II)I" } : Jvm.MethodName) ∈ wsA := List.mem_filter.mpr ⟨wt_4 (List.mem_of_getElem? (i := 85) rfl), rfl⟩
theorem wq4_86 : Jvm.Cond.instanceMethod ({ cls := "NoticeBoxesModel", name := "brokerAt", desc := "(II)I" } : Jvm.MethodName) ∈ wsA := List.mem_filter.mpr ⟨wt_4 (List.mem_of_getElem? (i := 86) rfl), rfl⟩
theorem wq4_87 : Jvm.Cond.selects "NoticeBoxesModel" ({ cls := "NoticeBoxesModel", name := "brokerAt", desc := "(II)I" } : Jvm.MethodName) ({ cls := "NoticeBoxesModel", name := "brokerAt", desc := "(II)I" } : Jvm.MethodName) ∈ wsA := List.mem_filter.mpr ⟨wt_4 (List.mem_of_getElem? (i := 87) rfl), rfl⟩
theorem wq4_88 : Jvm.Cond.code ({ cls := "NoticeBoxesModel", name := "brokerAt", desc := "(II)I" } : Jvm.MethodName) prog_13_method_39_code (5 : Nat) (Option.some Jvm.ClassFile.FieldType.int) ∈ wsA := List.mem_filter.mpr ⟨wt_4 (List.mem_of_getElem? (i := 88) rfl), rfl⟩
theorem wq4_89 : Jvm.Cond.constant "NoticeBoxesModel" (180 : Nat) (-1000000001 : Int32) ∈ wsA := List.mem_filter.mpr ⟨wt_4 (List.mem_of_getElem? (i := 89) rfl), rfl⟩
theorem wq4_90 : Jvm.Cond.methodLink "NoticeBoxesLaw" (26 : Nat) ({ cls := "NoticeBoxesModel", name := "clientAt", desc := "(II)I" } : Jvm.MethodName) ∈ wsA := List.mem_filter.mpr ⟨wt_4 (List.mem_of_getElem? (i := 90) rfl), rfl⟩
theorem wq4_91 : Jvm.Cond.instanceMethod ({ cls := "NoticeBoxesModel", name := "clientAt", desc := "(II)I" } : Jvm.MethodName) ∈ wsA := List.mem_filter.mpr ⟨wt_4 (List.mem_of_getElem? (i := 91) rfl), rfl⟩
theorem wq4_92 : Jvm.Cond.selects "NoticeBoxesModel" ({ cls := "NoticeBoxesModel", name := "clientAt", desc := "(II)I" } : Jvm.MethodName) ({ cls := "NoticeBoxesModel", name := "clientAt", desc := "(II)I" } : Jvm.MethodName) ∈ wsA := List.mem_filter.mpr ⟨wt_4 (List.mem_of_getElem? (i := 92) rfl), rfl⟩
theorem wq4_93 : Jvm.Cond.code ({ cls := "NoticeBoxesModel", name := "clientAt", desc := "(II)I" } : Jvm.MethodName) prog_13_method_40_code (5 : Nat) (Option.some Jvm.ClassFile.FieldType.int) ∈ wsA := List.mem_filter.mpr ⟨wt_4 (List.mem_of_getElem? (i := 93) rfl), rfl⟩
theorem wq4_94 : Jvm.Cond.methodLink "NoticeBoxesLaw" (30 : Nat) ({ cls := "NoticeBoxesModel", name := "log", desc := "(II)I" } : Jvm.MethodName) ∈ wsA := List.mem_filter.mpr ⟨wt_4 (List.mem_of_getElem? (i := 94) rfl), rfl⟩
theorem wq4_95 : Jvm.Cond.instanceMethod ({ cls := "NoticeBoxesModel", name := "log", desc := "(II)I" } : Jvm.MethodName) ∈ wsA := List.mem_filter.mpr ⟨wt_4 (List.mem_of_getElem? (i := 95) rfl), rfl⟩
theorem wq4_96 : Jvm.Cond.selects "NoticeBoxesModel" ({ cls := "NoticeBoxesModel", name := "log", desc := "(II)I" } : Jvm.MethodName) ({ cls := "NoticeBoxesModel", name := "log", desc := "(II)I" } : Jvm.MethodName) ∈ wsA := List.mem_filter.mpr ⟨wt_4 (List.mem_of_getElem? (i := 96) rfl), rfl⟩
theorem wq4_97 : Jvm.Cond.code ({ cls := "NoticeBoxesModel", name := "log", desc := "(II)I" } : Jvm.MethodName) prog_13_method_41_code (3 : Nat) (Option.some Jvm.ClassFile.FieldType.int) ∈ wsA := List.mem_filter.mpr ⟨wt_4 (List.mem_of_getElem? (i := 97) rfl), rfl⟩
theorem wq4_98 : Jvm.Cond.methodLink "NoticeBoxesLaw" (34 : Nat) ({ cls := "NoticeBoxesModel", name := "wishAt", desc := "(II)I" } : Jvm.MethodName) ∈ wsA := List.mem_filter.mpr ⟨wt_4 (List.mem_of_getElem? (i := 98) rfl), rfl⟩
theorem wq4_99 : Jvm.Cond.instanceMethod ({ cls := "NoticeBoxesModel", name := "wishAt", desc := "(II)I" } : Jvm.MethodName) ∈ wsA := List.mem_filter.mpr ⟨wt_4 (List.mem_of_getElem? (i := 99) rfl), rfl⟩
theorem wq4_100 : Jvm.Cond.selects "NoticeBoxesModel" ({ cls := "NoticeBoxesModel", name := "wishAt", desc := "(II)I" } : Jvm.MethodName) ({ cls := "NoticeBoxesModel", name := "wishAt", desc := "(II)I" } : Jvm.MethodName) ∈ wsA := List.mem_filter.mpr ⟨wt_4 (List.mem_of_getElem? (i := 100) rfl), rfl⟩
theorem wq4_101 : Jvm.Cond.code ({ cls := "NoticeBoxesModel", name := "wishAt", desc := "(II)I" } : Jvm.MethodName) prog_13_method_44_code (3 : Nat) (Option.some Jvm.ClassFile.FieldType.int) ∈ wsA := List.mem_filter.mpr ⟨wt_4 (List.mem_of_getElem? (i := 101) rfl), rfl⟩
theorem wq4_102 : Jvm.Cond.methodLink "NoticeBoxesModel" (184 : Nat) ({ cls := "NoticeBoxesModel", name := "isWish", desc := "(I)Z" } : Jvm.MethodName) ∈ wsA := List.mem_filter.mpr ⟨wt_4 (List.mem_of_getElem? (i := 102) rfl), rfl⟩
theorem wq4_103 : Jvm.Cond.privateMethod ({ cls := "NoticeBoxesModel", name := "isWish", desc := "(I)Z" } : Jvm.MethodName) ∈ lw_tbl := wt_4 (List.mem_of_getElem? (i := 103) rfl)
theorem wq4_104 : Jvm.Cond.instanceMethod ({ cls := "NoticeBoxesModel", name := "isWish", desc := "(I)Z" } : Jvm.MethodName) ∈ wsA := List.mem_filter.mpr ⟨wt_4 (List.mem_of_getElem? (i := 104) rfl), rfl⟩
theorem wq4_105 : Jvm.Cond.code ({ cls := "NoticeBoxesModel", name := "isWish", desc := "(I)Z" } : Jvm.MethodName) prog_13_method_8_code (2 : Nat) (Option.some Jvm.ClassFile.FieldType.boolean) ∈ wsA := List.mem_filter.mpr ⟨wt_4 (List.mem_of_getElem? (i := 105) rfl), rfl⟩
theorem wq4_106 : Jvm.Cond.methodLink "NoticeBoxesModel" (181 : Nat) ({ cls := "NoticeBoxesModel", name := "takesWish", desc := "(II)V" } : Jvm.MethodName) ∈ wsA := List.mem_filter.mpr ⟨wt_4 (List.mem_of_getElem? (i := 106) rfl), rfl⟩
theorem wq4_107 : Jvm.Cond.privateMethod ({ cls := "NoticeBoxesModel", name := "takesWish", desc := "(II)V" } : Jvm.MethodName) ∈ lw_tbl := wt_4 (List.mem_of_getElem? (i := 107) rfl)
theorem wq4_108 : Jvm.Cond.instanceMethod ({ cls := "NoticeBoxesModel", name := "takesWish", desc := "(II)V" } : Jvm.MethodName) ∈ wsA := List.mem_filter.mpr ⟨wt_4 (List.mem_of_getElem? (i := 108) rfl), rfl⟩
theorem wq4_109 : Jvm.Cond.code ({ cls := "NoticeBoxesModel", name := "takesWish", desc := "(II)V" } : Jvm.MethodName) prog_13_method_42_code (4 : Nat) (Option.none : Option Jvm.ClassFile.FieldType) ∈ wsA := List.mem_filter.mpr ⟨wt_4 (List.mem_of_getElem? (i := 109) rfl), rfl⟩
theorem wq4_110 : Jvm.Cond.methodLink "NoticeBoxesModel" (187 : Nat) ({ cls := "NoticeBoxesModel", name := "covered", desc := "(I)I" } : Jvm.MethodName) ∈ wsA := List.mem_filter.mpr ⟨wt_4 (List.mem_of_getElem? (i := 110) rfl), rfl⟩
theorem wq4_111 : Jvm.Cond.privateMethod ({ cls := "NoticeBoxesModel", name := "covered", desc := "(I)I" } : Jvm.MethodName) ∈ lw_tbl := wt_4 (List.mem_of_getElem? (i := 111) rfl)
theorem wq4_112 : Jvm.Cond.instanceMethod ({ cls := "NoticeBoxesModel", name := "covered", desc := "(I)I" } : Jvm.MethodName) ∈ wsA := List.mem_filter.mpr ⟨wt_4 (List.mem_of_getElem? (i := 112) rfl), rfl⟩
theorem wq4_113 : Jvm.Cond.code ({ cls := "NoticeBoxesModel", name := "covered", desc := "(I)I" } : Jvm.MethodName) prog_13_method_43_code (4 : Nat) (Option.some Jvm.ClassFile.FieldType.int) ∈ wsA := List.mem_filter.mpr ⟨wt_4 (List.mem_of_getElem? (i := 113) rfl), rfl⟩
theorem wq4_114 : Jvm.Cond.methodLink "NoticeBoxesLaw" (38 : Nat) ({ cls := "NoticeBoxesModel", name := "toldOn", desc := "(II)I" } : Jvm.MethodName) ∈ wsA := List.mem_filter.mpr ⟨wt_4 (List.mem_of_getElem? (i := 114) rfl), rfl⟩
theorem wq4_115 : Jvm.Cond.instanceMethod ({ cls := "NoticeBoxesModel", name := "toldOn", desc := "(II)I" } : Jvm.MethodName) ∈ wsA := List.mem_filter.mpr ⟨wt_4 (List.mem_of_getElem? (i := 115) rfl), rfl⟩
theorem wq4_116 : Jvm.Cond.selects "NoticeBoxesModel" ({ cls := "NoticeBoxesModel", name := "toldOn", desc := "(II)I" } : Jvm.MethodName) ({ cls := "NoticeBoxesModel", name := "toldOn", desc := "(II)I" } : Jvm.MethodName) ∈ wsA := List.mem_filter.mpr ⟨wt_4 (List.mem_of_getElem? (i := 116) rfl), rfl⟩
theorem wq4_117 : Jvm.Cond.code ({ cls := "NoticeBoxesModel", name := "toldOn", desc := "(II)I" } : Jvm.MethodName) prog_13_method_45_code (3 : Nat) (Option.some Jvm.ClassFile.FieldType.int) ∈ wsA := List.mem_filter.mpr ⟨wt_4 (List.mem_of_getElem? (i := 117) rfl), rfl⟩
theorem wq4_118 : Jvm.Cond.methodLink "NoticeBoxesLaw" (43 : Nat) ({ cls := "NoticeBoxesModel", name := "box", desc := "(IIII)I" } : Jvm.MethodName) ∈ wsA := List.mem_filter.mpr ⟨wt_4 (List.mem_of_getElem? (i := 118) rfl), rfl⟩
theorem wq4_119 : Jvm.Cond.instanceMethod ({ cls := "NoticeBoxesModel", name := "box", desc := "(IIII)I" } : Jvm.MethodName) ∈ wsA := List.mem_filter.mpr ⟨wt_4 (List.mem_of_getElem? (i := 119) rfl), rfl⟩
theorem wq4_120 : Jvm.Cond.selects "NoticeBoxesModel" ({ cls := "NoticeBoxesModel", name := "box", desc := "(IIII)I" } : Jvm.MethodName) ({ cls := "NoticeBoxesModel", name := "box", desc := "(IIII)I" } : Jvm.MethodName) ∈ wsA := List.mem_filter.mpr ⟨wt_4 (List.mem_of_getElem? (i := 120) rfl), rfl⟩
theorem wq4_121 : Jvm.Cond.code ({ cls := "NoticeBoxesModel", name := "box", desc := "(IIII)I" } : Jvm.MethodName) prog_13_method_47_code (7 : Nat) (Option.some Jvm.ClassFile.FieldType.int) ∈ wsA := List.mem_filter.mpr ⟨wt_4 (List.mem_of_getElem? (i := 121) rfl), rfl⟩
theorem wq4_122 : Jvm.Cond.methodLink "NoticeBoxesModel" (190 : Nat) ({ cls := "NoticeBoxesModel", name := "isWishBox", desc := "()Z" } : Jvm.MethodName) ∈ wsA := List.mem_filter.mpr ⟨wt_4 (List.mem_of_getElem? (i := 122) rfl), rfl⟩
theorem wq4_123 : Jvm.Cond.privateMethod ({ cls := "NoticeBoxesModel", name := "isWishBox", desc := "()Z" } : Jvm.MethodName) ∈ lw_tbl := wt_4 (List.mem_of_getElem? (i := 123) rfl)
theorem wq4_124 : Jvm.Cond.instanceMethod ({ cls := "NoticeBoxesModel", name := "isWishBox", desc := "()Z" } : Jvm.MethodName) ∈ wsA := List.mem_filter.mpr ⟨wt_4 (List.mem_of_getElem? (i := 124) rfl), rfl⟩
theorem wq4_125 : Jvm.Cond.code ({ cls := "NoticeBoxesModel", name := "isWishBox", desc := "()Z" } : Jvm.MethodName) prog_13_method_46_code (3 : Nat) (Option.some Jvm.ClassFile.FieldType.boolean) ∈ wsA := List.mem_filter.mpr ⟨wt_4 (List.mem_of_getElem? (i := 125) rfl), rfl⟩
theorem wq4_126 : Jvm.Cond.methodLink "NoticeBoxesLaw" (48 : Nat) ({ cls := "NoticeBoxesModel", name := "would", desc := "(IIIII)I" } : Jvm.MethodName) ∈ wsA := List.mem_filter.mpr ⟨wt_4 (List.mem_of_getElem? (i := 126) rfl), rfl⟩
theorem wq4_127 : Jvm.Cond.instanceMethod ({ cls := "NoticeBoxesModel", name := "would", desc := "(IIIII)I" } : Jvm.MethodName) ∈ wsA := List.mem_filter.mpr ⟨wt_4 (List.mem_of_getElem? (i := 127) rfl), rfl⟩
theorem wq4_128 : Jvm.Cond.selects "NoticeBoxesModel" ({ cls := "NoticeBoxesModel", name := "would", desc := "(IIIII)I" } : Jvm.MethodName) ({ cls := "NoticeBoxesModel", name := "would", desc := "(IIIII)I" } : Jvm.MethodName) ∈ wsA := List.mem_filter.mpr ⟨wt_4 (List.mem_of_getElem? (i := 128) rfl), rfl⟩
theorem wq4_129 : Jvm.Cond.code ({ cls := "NoticeBoxesModel", name := "would", desc := "(IIIII)I" } : Jvm.MethodName) prog_13_method_48_code (6 : Nat) (Option.some Jvm.ClassFile.FieldType.int) ∈ wsA := List.mem_filter.mpr ⟨wt_4 (List.mem_of_getElem? (i := 129) rfl), rfl⟩
theorem wq4_130 : Jvm.Cond.methodLink "NoticeBoxesModel" (194 : Nat) ({ cls := "NoticeBoxesModel", name := "areThings", desc := "(III)Z" } : Jvm.MethodName) ∈ wsA := List.mem_filter.mpr ⟨wt_4 (List.mem_of_getElem? (i := 130) rfl), rfl⟩
theorem wq4_131 : Jvm.Cond.static ({ cls := "NoticeBoxesModel", name := "areThings", desc := "(III)Z" } : Jvm.MethodName) ∈ wsA := List.mem_filter.mpr ⟨wt_4 (List.mem_of_getElem? (i := 131) rfl), rfl⟩
theorem wq4_132 : Jvm.Cond.code ({ cls := "NoticeBoxesModel", name := "areThings", desc := "(III)Z" } : Jvm.MethodName) prog_13_method_35_code (3 : Nat) (Option.some Jvm.ClassFile.FieldType.boolean) ∈ wsA := List.mem_filter.mpr ⟨wt_4 (List.mem_of_getElem? (i := 132) rfl), rfl⟩
theorem wq4_133 : Jvm.Cond.methodLink "NoticeBoxesModel" (147 : Nat) ({ cls := "NoticeBoxesModel", name := "walks", desc := "(IIII)V" } : Jvm.MethodName) ∈ wsA := List.mem_filter.mpr ⟨wt_4 (List.mem_of_getElem? (i := 133) rfl), rfl⟩
theorem wq4_134 : Jvm.Cond.privateMethod ({ cls := "NoticeBoxesModel", name := "walks", desc := "(IIII)V" } : Jvm.MethodName) ∈ lw_tbl := wt_4 (List.mem_of_getElem? (i := 134) rfl)
theorem wq4_135 : Jvm.Cond.instanceMethod ({ cls := "NoticeBoxesModel", name := "walks", desc := "(IIII)V" } : Jvm.MethodName) ∈ wsA := List.mem_filter.mpr ⟨wt_4 (List.mem_of_getElem? (i := 135) rfl), rfl⟩
theorem wq4_136 : Jvm.Cond.code ({ cls := "NoticeBoxesModel", name := "walks", desc := "(IIII)V" } : Jvm.MethodName) prog_13_method_30_code (10 : Nat) (Option.none : Option Jvm.ClassFile.FieldType) ∈ wsA := List.mem_filter.mpr ⟨wt_4 (List.mem_of_getElem? (i := 136) rfl), rfl⟩
theorem wq4_137 : Jvm.Cond.methodLink "NoticeBoxesModel" (129 : Nat) ({ cls := "NoticeBoxesModel", name := "goes", desc := "(IIIII)Z" } : Jvm.MethodName) ∈ wsA := List.mem_filter.mpr ⟨wt_4 (List.mem_of_getElem? (i := 137) rfl), rfl⟩
theorem wq4_138 : Jvm.Cond.privateMethod ({ cls := "NoticeBoxesModel", name := "goes", desc := "(IIIII)Z" } : Jvm.MethodName) ∈ lw_tbl := wt_4 (List.mem_of_getElem? (i := 138) rfl)
theorem wq4_139 : Jvm.Cond.instanceMethod ({ cls := "NoticeBoxesModel", name := "goes", desc := "(IIIII)Z" } : Jvm.MethodName) ∈ wsA := List.mem_filter.mpr ⟨wt_4 (List.mem_of_getElem? (i := 139) rfl), rfl⟩
theorem wq4_140 : Jvm.Cond.code ({ cls := "NoticeBoxesModel", name := "goes", desc := "(IIIII)Z" } : Jvm.MethodName) prog_13_method_28_code (9 : Nat) (Option.some Jvm.ClassFile.FieldType.boolean) ∈ wsA := List.mem_filter.mpr ⟨wt_4 (List.mem_of_getElem? (i := 140) rfl), rfl⟩
theorem wq4_141 : Jvm.Cond.methodLink "NoticeBoxesModel" (116 : Nat) ({ cls := "NoticeBoxesModel", name := "fits", desc := "([IIIII)Z" } : Jvm.MethodName) ∈ wsA := List.mem_filter.mpr ⟨wt_4 (List.mem_of_getElem? (i := 141) rfl), rfl⟩
theorem wq4_142 : Jvm.Cond.static ({ cls := "NoticeBoxesModel", name := "fits", desc := "([IIIII)Z" } : Jvm.MethodName) ∈ wsA := List.mem_filter.mpr ⟨wt_4 (List.mem_of_getElem? (i := 142) rfl), rfl⟩
theorem wq4_143 : Jvm.Cond.code ({ cls := "NoticeBoxesModel", name := "fits", desc := "([IIIII)Z" } : Jvm.MethodName) prog_13_method_27_code (5 : Nat) (Option.some Jvm.ClassFile.FieldType.boolean) ∈ wsA := List.mem_filter.mpr ⟨wt_4 (List.mem_of_getElem? (i := 143) rfl), rfl⟩
theorem wq4_144 : Jvm.Cond.methodLink "NoticeBoxesModel" (136 : Nat) ({ cls := "NoticeBoxesModel", name := "isWished", desc := "(IIII)Z" } : Jvm.MethodName) ∈ wsA := List.mem_filter.mpr ⟨wt_4 (List.mem_of_getElem? (i := 144) rfl), rfl⟩
theorem wq4_145 : Jvm.Cond.privateMethod ({ cls := "NoticeBoxesModel", name := "isWished", desc := "(IIII)Z" } : Jvm.MethodName) ∈ lw_tbl := wt_4 (List.mem_of_getElem? (i := 145) rfl)
theorem wq4_146 : Jvm.Cond.instanceMethod ({ cls := "NoticeBoxesModel", name := "isWished", desc := "(IIII)Z" } : Jvm.MethodName) ∈ wsA := List.mem_filter.mpr ⟨wt_4 (List.mem_of_getElem? (i := 146) rfl), rfl⟩
theorem wq4_147 : Jvm.Cond.code ({ cls := "NoticeBoxesModel", name := "isWished", desc := "(IIII)Z" } : Jvm.MethodName) prog_13_method_29_code (7 : Nat) (Option.some Jvm.ClassFile.FieldType.boolean) ∈ wsA := List.mem_filter.mpr ⟨wt_4 (List.mem_of_getElem? (i := 147) rfl), rfl⟩
theorem wq4_148 : Jvm.Cond.methodLink "NoticeBoxesLaw" (52 : Nat) ({ cls := "NoticeBoxesModel", name := "broker", desc := "(I)I" } : Jvm.MethodName) ∈ wsA := List.mem_filter.mpr ⟨wt_4 (List.mem_of_getElem? (i := 148) rfl), rfl⟩
theorem wq4_149 : Jvm.Cond.instanceMethod ({ cls := "NoticeBoxesModel", name := "broker", desc := "(I)I" } : Jvm.MethodName) ∈ wsA := List.mem_filter.mpr ⟨wt_4 (List.mem_of_getElem? (i := 149) rfl), rfl⟩
theorem wq4_150 : Jvm.Cond.selects "NoticeBoxesModel" ({ cls := "NoticeBoxesModel", name := "broker", desc := "(I)I" } : Jvm.MethodName) ({ cls := "NoticeBoxesModel", name := "broker", desc := "(I)I" } : Jvm.MethodName) ∈ wsA := List.mem_filter.mpr ⟨wt_4 (List.mem_of_getElem? (i := 150) rfl), rfl⟩
theorem wq4_151 : Jvm.Cond.code ({ cls := "NoticeBoxesModel", name := "broker", desc := "(I)I" } : Jvm.MethodName) prog_13_method_50_code (2 : Nat) (Option.some Jvm.ClassFile.FieldType.int) ∈ wsA := List.mem_filter.mpr ⟨wt_4 (List.mem_of_getElem? (i := 151) rfl), rfl⟩
theorem wq4_152 : Jvm.Cond.constant "NoticeBoxesModel" (197 : Nat) (-1000000004 : Int32) ∈ wsA := List.mem_filter.mpr ⟨wt_4 (List.mem_of_getElem? (i := 152) rfl), rfl⟩
theorem wq4_153 : Jvm.Cond.methodLink "NoticeBoxesModel" (198 : Nat) ({ cls := "NoticeBoxesModel", name := "deed", desc := "()V" } : Jvm.MethodName) ∈ wsA := List.mem_filter.mpr ⟨wt_4 (List.mem_of_getElem? (i := 153) rfl), rfl⟩
theorem wq4_154 : Jvm.Cond.privateMethod ({ cls := "NoticeBoxesModel", name := "deed", desc := "()V" } : Jvm.MethodName) ∈ lw_tbl := wt_4 (List.mem_of_getElem? (i := 154) rfl)
theorem wq4_155 : Jvm.Cond.instanceMethod ({ cls := "NoticeBoxesModel", name := "deed", desc := "()V" } : Jvm.MethodName) ∈ wsA := List.mem_filter.mpr ⟨wt_4 (List.mem_of_getElem? (i := 155) rfl), rfl⟩
theorem wq4_156 : Jvm.Cond.code ({ cls := "NoticeBoxesModel", name := "deed", desc := "()V" } : Jvm.MethodName) prog_13_method_49_code (2 : Nat) (Option.none : Option Jvm.ClassFile.FieldType) ∈ wsA := List.mem_filter.mpr ⟨wt_4 (List.mem_of_getElem? (i := 156) rfl), rfl⟩
theorem wq4_157 : Jvm.Cond.methodLink "NoticeBoxesLaw" (56 : Nat) ({ cls := "NoticeBoxesModel", name := "client", desc := "(I)I" } : Jvm.MethodName) ∈ wsA := List.mem_filter.mpr ⟨wt_4 (List.mem_of_getElem? (i := 157) rfl), rfl⟩
theorem wq4_158 : Jvm.Cond.instanceMethod ({ cls := "NoticeBoxesModel", name := "client", desc := "(I)I" } : Jvm.MethodName) ∈ wsA := List.mem_filter.mpr ⟨wt_4 (List.mem_of_getElem? (i := 158) rfl), rfl⟩
theorem wq4_159 : Jvm.Cond.selects "NoticeBoxesModel" ({ cls := "NoticeBoxesModel", name := "client", desc := "(I)I" } : Jvm.MethodName) ({ cls := "NoticeBoxesModel", name := "client", desc := "(I)I" } : Jvm.MethodName) ∈ wsA := List.mem_filter.mpr ⟨wt_4 (List.mem_of_getElem? (i := 159) rfl), rfl⟩
theorem wq4_160 : Jvm.Cond.code ({ cls := "NoticeBoxesModel", name := "client", desc := "(I)I" } : Jvm.MethodName) prog_13_method_51_code (4 : Nat) (Option.some Jvm.ClassFile.FieldType.int) ∈ wsA := List.mem_filter.mpr ⟨wt_4 (List.mem_of_getElem? (i := 160) rfl), rfl⟩
theorem wq4_161 : Jvm.Cond.methodLink "NoticeBoxesModel" (143 : Nat) ({ cls := "NoticeBoxesModel", name := "sets", desc := "(III)V" } : Jvm.MethodName) ∈ wsA := List.mem_filter.mpr ⟨wt_4 (List.mem_of_getElem? (i := 161) rfl), rfl⟩
theorem wq4_162 : Jvm.Cond.privateMethod ({ cls := "NoticeBoxesModel", name := "sets", desc := "(III)V" } : Jvm.MethodName) ∈ lw_tbl := wt_4 (List.mem_of_getElem? (i := 162) rfl)
theorem wq4_163 : Jvm.Cond.instanceMethod ({ cls := "NoticeBoxesModel", name := "sets", desc := "(III)V" } : Jvm.MethodName) ∈ wsA := List.mem_filter.mpr ⟨wt_4 (List.mem_of_getElem? (i := 163) rfl), rfl⟩
theorem wq4_164 : Jvm.Cond.code ({ cls := "NoticeBoxesModel", name := "sets", desc := "(III)V" } : Jvm.MethodName) prog_13_method_4_code (4 : Nat) (Option.none : Option Jvm.ClassFile.FieldType) ∈ wsA := List.mem_filter.mpr ⟨wt_4 (List.mem_of_getElem? (i := 164) rfl), rfl⟩
theorem wq4_165 : Jvm.Cond.methodLink "NoticeBoxesLaw" (61 : Nat) ({ cls := "NoticeBoxesModel", name := "wish", desc := "(IIIIIII)I" } : Jvm.MethodName) ∈ wsA := List.mem_filter.mpr ⟨wt_4 (List.mem_of_getElem? (i := 165) rfl), rfl⟩
theorem wq4_166 : Jvm.Cond.instanceMethod ({ cls := "NoticeBoxesModel", name := "wish", desc := "(IIIIIII)I" } : Jvm.MethodName) ∈ wsA := List.mem_filter.mpr ⟨wt_4 (List.mem_of_getElem? (i := 166) rfl), rfl⟩
theorem wq4_167 : Jvm.Cond.selects "NoticeBoxesModel" ({ cls := "NoticeBoxesModel", name := "wish", desc := "(IIIIIII)I" } : Jvm.MethodName) ({ cls := "NoticeBoxesModel", name := "wish", desc := "(IIIIIII)I" } : Jvm.MethodName) ∈ wsA := List.mem_filter.mpr ⟨wt_4 (List.mem_of_getElem? (i := 167) rfl), rfl⟩
theorem wq4_168 : Jvm.Cond.code ({ cls := "NoticeBoxesModel", name := "wish", desc := "(IIIIIII)I" } : Jvm.MethodName) prog_13_method_54_code (9 : Nat) (Option.some Jvm.ClassFile.FieldType.int) ∈ wsA := List.mem_filter.mpr ⟨wt_4 (List.mem_of_getElem? (i := 168) rfl), rfl⟩
theorem wq4_169 : Jvm.Cond.methodLink "NoticeBoxesModel" (201 : Nat) ({ cls := "NoticeBoxesModel", name := "isKind", desc := "(II)Z" } : Jvm.MethodName) ∈ wsA := List.mem_filter.mpr ⟨wt_4 (List.mem_of_getElem? (i := 169) rfl), rfl⟩
theorem wq4_170 : Jvm.Cond.static ({ cls := "NoticeBoxesModel", name := "isKind", desc := "(II)Z" } : Jvm.MethodName) ∈ wsA := List.mem_filter.mpr ⟨wt_4 (List.mem_of_getElem? (i := 170) rfl), rfl⟩
theorem wq4_171 : Jvm.Cond.code ({ cls := "NoticeBoxesModel", name := "isKind", desc := "(II)Z" } : Jvm.MethodName) prog_13_method_52_code (2 : Nat) (Option.some Jvm.ClassFile.FieldType.boolean) ∈ wsA := List.mem_filter.mpr ⟨wt_4 (List.mem_of_getElem? (i := 171) rfl), rfl⟩
theorem wq4_172 : Jvm.Cond.methodLink "NoticeBoxesModel" (204 : Nat) ({ cls := "NoticeBoxesModel", name := "bounds", desc := "(IIII)V" } : Jvm.MethodName) ∈ wsA := List.mem_filter.mpr ⟨wt_4 (List.mem_of_getElem? (i := 172) rfl), rfl⟩
theorem wq4_173 : Jvm.Cond.privateMethod ({ cls := "NoticeBoxesModel", name := "bounds", desc := "(IIII)V" } : Jvm.MethodName) ∈ lw_tbl := wt_4 (List.mem_of_getElem? (i := 173) rfl)
theorem wq4_174 : Jvm.Cond.instanceMethod ({ cls := "NoticeBoxesModel", name := "bounds", desc := "(IIII)V" } : Jvm.MethodName) ∈ wsA := List.mem_filter.mpr ⟨wt_4 (List.mem_of_getElem? (i := 174) rfl), rfl⟩
theorem wq4_175 : Jvm.Cond.code ({ cls := "NoticeBoxesModel", name := "bounds", desc := "(IIII)V" } : Jvm.MethodName) prog_13_method_53_code (5 : Nat) (Option.none : Option Jvm.ClassFile.FieldType) ∈ wsA := List.mem_filter.mpr ⟨wt_4 (List.mem_of_getElem? (i := 175) rfl), rfl⟩
theorem wq4_176 : Jvm.Cond.methodLink "NoticeBoxesLaw" (65 : Nat) ({ cls := "NoticeBoxesModel", name := "drop", desc := "(I)I" } : Jvm.MethodName) ∈ wsA := List.mem_filter.mpr ⟨wt_4 (List.mem_of_getElem? (i := 176) rfl), rfl⟩
theorem wq4_177 : Jvm.Cond.instanceMethod ({ cls := "NoticeBoxesModel", name := "drop", desc := "(I)I" } : Jvm.MethodName) ∈ wsA := List.mem_filter.mpr ⟨wt_4 (List.mem_of_getElem? (i := 177) rfl), rfl⟩
theorem wq4_178 : Jvm.Cond.selects "NoticeBoxesModel" ({ cls := "NoticeBoxesModel", name := "drop", desc := "(I)I" } : Jvm.MethodName) ({ cls := "NoticeBoxesModel", name := "drop", desc := "(I)I" } : Jvm.MethodName) ∈ wsA := List.mem_filter.mpr ⟨wt_4 (List.mem_of_getElem? (i := 178) rfl), rfl⟩
theorem wq4_179 : Jvm.Cond.code ({ cls := "NoticeBoxesModel", name := "drop", desc := "(I)I" } : Jvm.MethodName) prog_13_method_56_code (2 : Nat) (Option.some Jvm.ClassFile.FieldType.int) ∈ wsA := List.mem_filter.mpr ⟨wt_4 (List.mem_of_getElem? (i := 179) rfl), rfl⟩
theorem wq4_180 : Jvm.Cond.methodLink "NoticeBoxesModel" (207 : Nat) ({ cls := "NoticeBoxesModel", name := "dropsWish", desc := "(I)V" } : Jvm.MethodName) ∈ wsA := List.mem_filter.mpr ⟨wt_4 (List.mem_of_getElem? (i := 180) rfl), rfl⟩
theorem wq4_181 : Jvm.Cond.privateMethod ({ cls := "NoticeBoxesModel", name := "dropsWish", desc := "(I)V" } : Jvm.MethodName) ∈ lw_tbl := wt_4 (List.mem_of_getElem? (i := 181) rfl)
theorem wq4_182 : Jvm.Cond.instanceMethod ({ cls := "NoticeBoxesModel", name := "dropsWish", desc := "(I)V" } : Jvm.MethodName) ∈ wsA := List.mem_filter.mpr ⟨wt_4 (List.mem_of_getElem? (i := 182) rfl), rfl⟩
theorem wq4_183 : Jvm.Cond.code ({ cls := "NoticeBoxesModel", name := "dropsWish", desc := "(I)V" } : Jvm.MethodName) prog_13_method_55_code (3 : Nat) (Option.none : Option Jvm.ClassFile.FieldType) ∈ wsA := List.mem_filter.mpr ⟨wt_4 (List.mem_of_getElem? (i := 183) rfl), rfl⟩
theorem wq4_184 : Jvm.Cond.methodLink "NoticeBoxesLaw" (69 : Nat) ({ cls := "NoticeBoxesModel", name := "most", desc := "(I)I" } : Jvm.MethodName) ∈ wsA := List.mem_filter.mpr ⟨wt_4 (List.mem_of_getElem? (i := 184) rfl), rfl⟩
theorem wq4_185 : Jvm.Cond.instanceMethod ({ cls := "NoticeBoxesModel", name := "most", desc := "(I)I" } : Jvm.MethodName) ∈ wsA := List.mem_filter.mpr ⟨wt_4 (List.mem_of_getElem? (i := 185) rfl), rfl⟩
theorem wq4_186 : Jvm.Cond.selects "NoticeBoxesModel" ({ cls := "NoticeBoxesModel", name := "most", desc := "(I)I" } : Jvm.MethodName) ({ cls := "NoticeBoxesModel", name := "most", desc := "(I)I" } : Jvm.MethodName) ∈ wsA := List.mem_filter.mpr ⟨wt_4 (List.mem_of_getElem? (i := 186) rfl), rfl⟩
theorem wq4_187 : Jvm.Cond.code ({ cls := "NoticeBoxesModel", name := "most", desc := "(I)I" } : Jvm.MethodName) prog_13_method_57_code (3 : Nat) (Option.some Jvm.ClassFile.FieldType.int) ∈ wsA := List.mem_filter.mpr ⟨wt_4 (List.mem_of_getElem? (i := 187) rfl), rfl⟩
theorem wq4_188 : Jvm.Cond.methodLink "NoticeBoxesLaw" (73 : Nat) ({ cls := "NoticeBoxesModel", name := "put", desc := "(IIII)I" } : Jvm.MethodName) ∈ wsA := List.mem_filter.mpr ⟨wt_4 (List.mem_of_getElem? (i := 188) rfl), rfl⟩
theorem wq4_189 : Jvm.Cond.instanceMethod ({ cls := "NoticeBoxesModel", name := "put", desc := "(IIII)I" } : Jvm.MethodName) ∈ wsA := List.mem_filter.mpr ⟨wt_4 (List.mem_of_getElem? (i := 189) rfl), rfl⟩
theorem wq4_190 : Jvm.Cond.selects "NoticeBoxesModel" ({ cls := "NoticeBoxesModel", name := "put", desc := "(IIII)I" } : Jvm.MethodName) ({ cls := "NoticeBoxesModel", name := "put", desc := "(IIII)I" } : Jvm.MethodName) ∈ wsA := List.mem_filter.mpr ⟨wt_4 (List.mem_of_getElem? (i := 190) rfl), rfl⟩
theorem wq4_191 : Jvm.Cond.code ({ cls := "NoticeBoxesModel", name := "put", desc := "(IIII)I" } : Jvm.MethodName) prog_13_method_58_code (5 : Nat) (Option.some Jvm.ClassFile.FieldType.int) ∈ wsA := List.mem_filter.mpr ⟨wt_4 (List.mem_of_getElem? (i := 191) rfl), rfl⟩
theorem wq4_192 : Jvm.Cond.methodLink "NoticeBoxesModel" (210 : Nat) ({ cls := "NoticeBoxesModel", name := "puts", desc := "(IIII)I" } : Jvm.MethodName) ∈ wsA := List.mem_filter.mpr ⟨wt_4 (List.mem_of_getElem? (i := 192) rfl), rfl⟩
theorem wq4_193 : Jvm.Cond.privateMethod ({ cls := "NoticeBoxesModel", name := "puts", desc := "(IIII)I" } : Jvm.MethodName) ∈ lw_tbl := wt_4 (List.mem_of_getElem? (i := 193) rfl)
theorem wq4_194 : Jvm.Cond.instanceMethod ({ cls := "NoticeBoxesModel", name := "puts", desc := "(IIII)I" } : Jvm.MethodName) ∈ wsA := List.mem_filter.mpr ⟨wt_4 (List.mem_of_getElem? (i := 194) rfl), rfl⟩
theorem wq4_195 : Jvm.Cond.code ({ cls := "NoticeBoxesModel", name := "puts", desc := "(IIII)I" } : Jvm.MethodName) prog_13_method_34_code (6 : Nat) (Option.some Jvm.ClassFile.FieldType.int) ∈ wsA := List.mem_filter.mpr ⟨wt_4 (List.mem_of_getElem? (i := 195) rfl), rfl⟩
theorem wq4_196 : Jvm.Cond.methodLink "NoticeBoxesModel" (151 : Nat) ({ cls := "NoticeBoxesModel", name := "logs", desc := "(II)V" } : Jvm.MethodName) ∈ wsA := List.mem_filter.mpr ⟨wt_4 (List.mem_of_getElem? (i := 196) rfl), rfl⟩
theorem wq4_197 : Jvm.Cond.privateMethod ({ cls := "NoticeBoxesModel", name := "logs", desc := "(II)V" } : Jvm.MethodName) ∈ lw_tbl := wt_4 (List.mem_of_getElem? (i := 197) rfl)
theorem wq4_198 : Jvm.Cond.instanceMethod ({ cls := "NoticeBoxesModel", name := "logs", desc := "(II)V" } : Jvm.MethodName) ∈ wsA := List.mem_filter.mpr ⟨wt_4 (List.mem_of_getElem? (i := 198) rfl), rfl⟩
theorem wq4_199 : Jvm.Cond.code ({ cls := "NoticeBoxesModel", name := "logs", desc := "(II)V" } : Jvm.MethodName) prog_13_method_32_code (4 : Nat) (Option.none : Option Jvm.ClassFile.FieldType) ∈ wsA := List.mem_filter.mpr ⟨wt_4 (List.mem_of_getElem? (i := 199) rfl), rfl⟩
theorem wq4_200 : Jvm.Cond.methodLink "NoticeBoxesModel" (154 : Nat) ({ cls := "NoticeBoxesModel", name := "waits", desc := "(II)V" } : Jvm.MethodName) ∈ wsA := List.mem_filter.mpr ⟨wt_4 (List.mem_of_getElem? (i := 200) rfl), rfl⟩
theorem wq4_201 : Jvm.Cond.privateMethod ({ cls := "NoticeBoxesModel", name := "waits", desc := "(II)V" } : Jvm.MethodName) ∈ lw_tbl := wt_4 (List.mem_of_getElem? (i := 201) rfl)
theorem wq4_202 : Jvm.Cond.instanceMethod ({ cls := "NoticeBoxesModel", name := "waits", desc := "(II)V" } : Jvm.MethodName) ∈ wsA := List.mem_filter.mpr ⟨wt_4 (List.mem_of_getElem? (i := 202) rfl), rfl⟩
theorem wq4_203 : Jvm.Cond.code ({ cls := "NoticeBoxesModel", name := "waits", desc := "(II)V" } : Jvm.MethodName) prog_13_method_33_code (4 : Nat) (Option.none : Option Jvm.ClassFile.FieldType) ∈ wsA := List.mem_filter.mpr ⟨wt_4 (List.mem_of_getElem? (i := 203) rfl), rfl⟩
theorem wq4_204 : Jvm.Cond.methodLink "NoticeBoxesModel" (157 : Nat) ({ cls := "NoticeBoxesModel", name := "bits", desc := "(I)I" } : Jvm.MethodName) ∈ wsA := List.mem_filter.mpr ⟨wt_4 (List.mem_of_getElem? (i := 204) rfl), rfl⟩
theorem wq4_205 : Jvm.Cond.static ({ cls := "NoticeBoxesModel", name := "bits", desc := "(I)I" } : Jvm.MethodName) ∈ wsA := List.mem_filter.mpr ⟨wt_4 (List.mem_of_getElem? (i := 205) rfl), rfl⟩
theorem wq4_206 : Jvm.Cond.code ({ cls := "NoticeBoxesModel", name := "bits", desc := "(I)I" } : Jvm.MethodName) prog_13_method_31_code (3 : Nat) (Option.some Jvm.ClassFile.FieldType.int) ∈ wsA := List.mem_filter.mpr ⟨wt_4 (List.mem_of_getElem? (i := 206) rfl), rfl⟩
theorem wq4_207 : Jvm.Cond.methodLink "NoticeBoxesLaw" (77 : Nat) ({ cls := "NoticeBoxesModel", name := "leave", desc := "(I)I" } : Jvm.MethodName) ∈ wsA := List.mem_filter.mpr ⟨wt_4 (List.mem_of_getElem? (i := 207) rfl), rfl⟩
theorem wq4_208 : Jvm.Cond.instanceMethod ({ cls := "NoticeBoxesModel", name := "leave", desc := "(I)I" } : Jvm.MethodName) ∈ wsA := List.mem_filter.mpr ⟨wt_4 (List.mem_of_getElem? (i := 208) rfl), rfl⟩
theorem wq4_209 : Jvm.Cond.selects "NoticeBoxesModel" ({ cls := "NoticeBoxesModel", name := "leave", desc := "(I)I" } : Jvm.MethodName) ({ cls := "NoticeBoxesModel", name := "leave", desc := "(I)I" } : Jvm.MethodName) ∈ wsA := List.mem_filter.mpr ⟨wt_4 (List.mem_of_getElem? (i := 209) rfl), rfl⟩
theorem wq4_210 : Jvm.Cond.code ({ cls := "NoticeBoxesModel", name := "leave", desc := "(I)I" } : Jvm.MethodName) prog_13_method_59_code (2 : Nat) (Option.some Jvm.ClassFile.FieldType.int) ∈ wsA := List.mem_filter.mpr ⟨wt_4 (List.mem_of_getElem? (i := 210) rfl), rfl⟩
theorem wq4_211 : Jvm.Cond.constant "NoticeBoxesModel" (214 : Nat) (-1000000003 : Int32) ∈ wsA := List.mem_filter.mpr ⟨wt_4 (List.mem_of_getElem? (i := 211) rfl), rfl⟩
theorem wq4_212 : Jvm.Cond.methodLink "NoticeBoxesLaw" (81 : Nat) ({ cls := "NoticeBoxesModel", name := "come", desc := "(II)I" } : Jvm.MethodName) ∈ wsA := List.mem_filter.mpr ⟨wt_4 (List.mem_of_getElem? (i := 212) rfl), rfl⟩
theorem wq4_213 : Jvm.Cond.instanceMethod ({ cls := "NoticeBoxesModel", name := "come", desc := "(II)I" } : Jvm.MethodName) ∈ wsA := List.mem_filter.mpr ⟨wt_4 (List.mem_of_getElem? (i := 213) rfl), rfl⟩
theorem wq4_214 : Jvm.Cond.selects "NoticeBoxesModel" ({ cls := "NoticeBoxesModel", name := "come", desc := "(II)I" } : Jvm.MethodName) ({ cls := "NoticeBoxesModel", name := "come", desc := "(II)I" } : Jvm.MethodName) ∈ wsA := List.mem_filter.mpr ⟨wt_4 (List.mem_of_getElem? (i := 214) rfl), rfl⟩
theorem wq4_215 : Jvm.Cond.code ({ cls := "NoticeBoxesModel", name := "come", desc := "(II)I" } : Jvm.MethodName) prog_13_method_60_code (5 : Nat) (Option.some Jvm.ClassFile.FieldType.int) ∈ wsA := List.mem_filter.mpr ⟨wt_4 (List.mem_of_getElem? (i := 215) rfl), rfl⟩
theorem wq4_216 : Jvm.Cond.methodLink "NoticeBoxesLaw" (86 : Nat) ({ cls := "NoticeBoxesModel", name := "part", desc := "()I" } : Jvm.MethodName) ∈ wsA := List.mem_filter.mpr ⟨wt_4 (List.mem_of_getElem? (i := 216) rfl), rfl⟩
theorem wq4_217 : Jvm.Cond.instanceMethod ({ cls := "NoticeBoxesModel", name := "part", desc := "()I" } : Jvm.MethodName) ∈ wsA := List.mem_filter.mpr ⟨wt_4 (List.mem_of_getElem? (i := 217) rfl), rfl⟩
theorem wq4_218 : Jvm.Cond.selects "NoticeBoxesModel" ({ cls := "NoticeBoxesModel", name := "part", desc := "()I" } : Jvm.MethodName) ({ cls := "NoticeBoxesModel", name := "part", desc := "()I" } : Jvm.MethodName) ∈ wsA := List.mem_filter.mpr ⟨wt_4 (List.mem_of_getElem? (i := 218) rfl), rfl⟩
theorem wq4_219 : Jvm.Cond.code ({ cls := "NoticeBoxesModel", name := "part", desc := "()I" } : Jvm.MethodName) prog_13_method_61_code (2 : Nat) (Option.some Jvm.ClassFile.FieldType.int) ∈ wsA := List.mem_filter.mpr ⟨wt_4 (List.mem_of_getElem? (i := 219) rfl), rfl⟩
theorem wq4_220 : Jvm.Cond.methodLink "NoticeBoxesLaw" (90 : Nat) ({ cls := "NoticeBoxesModel", name := "drift", desc := "(I)I" } : Jvm.MethodName) ∈ wsA := List.mem_filter.mpr ⟨wt_4 (List.mem_of_getElem? (i := 220) rfl), rfl⟩
theorem wq4_221 : Jvm.Cond.instanceMethod ({ cls := "NoticeBoxesModel", name := "drift", desc := "(I)I" } : Jvm.MethodName) ∈ wsA := List.mem_filter.mpr ⟨wt_4 (List.mem_of_getElem? (i := 221) rfl), rfl⟩
theorem wq4_222 : Jvm.Cond.selects "NoticeBoxesModel" ({ cls := "NoticeBoxesModel", name := "drift", desc := "(I)I" } : Jvm.MethodName) ({ cls := "NoticeBoxesModel", name := "drift", desc := "(I)I" } : Jvm.MethodName) ∈ wsA := List.mem_filter.mpr ⟨wt_4 (List.mem_of_getElem? (i := 222) rfl), rfl⟩
theorem wq4_223 : Jvm.Cond.code ({ cls := "NoticeBoxesModel", name := "drift", desc := "(I)I" } : Jvm.MethodName) prog_13_method_63_code (7 : Nat) (Option.some Jvm.ClassFile.FieldType.int) ∈ wsA := List.mem_filter.mpr ⟨wt_4 (List.mem_of_getElem? (i := 223) rfl), rfl⟩
theorem wq4_224 : Jvm.Cond.methodLink "NoticeBoxesModel" (222 : Nat) ({ cls := "NoticeBoxesModel", name := "draws", desc := "(I)I" } : Jvm.MethodName) ∈ wsA := List.mem_filter.mpr ⟨wt_4 (List.mem_of_getElem? (i := 224) rfl), rfl⟩
theorem wq4_225 : Jvm.Cond.privateMethod ({ cls := "NoticeBoxesModel", name := "draws", desc := "(I)I" } : Jvm.MethodName) ∈ lw_tbl := wt_4 (List.mem_of_getElem? (i := 225) rfl)
theorem wq4_226 : Jvm.Cond.instanceMethod ({ cls := "NoticeBoxesModel", name := "draws", desc := "(I)I" } : Jvm.MethodName) ∈ wsA := List.mem_filter.mpr ⟨wt_4 (List.mem_of_getElem? (i := 226) rfl), rfl⟩
theorem wq4_227 : Jvm.Cond.code ({ cls := "NoticeBoxesModel", name := "draws", desc := "(I)I" } : Jvm.MethodName) prog_13_method_62_code (2 : Nat) (Option.some Jvm.ClassFile.FieldType.int) ∈ wsA := List.mem_filter.mpr ⟨wt_4 (List.mem_of_getElem? (i := 227) rfl), rfl⟩
theorem wq4_228 : Jvm.Cond.constantLong "NoticeBoxesModel" (215 : Nat) (1103515245 : Int64) ∈ wsA := List.mem_filter.mpr ⟨wt_4 (List.mem_of_getElem? (i := 228) rfl), rfl⟩
theorem wq4_229 : Jvm.Cond.constantLong "NoticeBoxesModel" (217 : Nat) (12345 : Int64) ∈ wsA := List.mem_filter.mpr ⟨wt_4 (List.mem_of_getElem? (i := 229) rfl), rfl⟩
theorem wq4_230 : Jvm.Cond.constantLong "NoticeBoxesModel" (219 : Nat) (2147483648 : Int64) ∈ wsA := List.mem_filter.mpr ⟨wt_4 (List.mem_of_getElem? (i := 230) rfl), rfl⟩
theorem wq4_231 : Jvm.Cond.constant "NoticeBoxesModel" (221 : Nat) (65536 : Int32) ∈ wsA := List.mem_filter.mpr ⟨wt_4 (List.mem_of_getElem? (i := 231) rfl), rfl⟩
theorem wq4_232 : Jvm.Cond.methodLink "NoticeBoxesLaw" (94 : Nat) ({ cls := "NoticeBoxesModel", name := "undo", desc := "(I)I" } : Jvm.MethodName) ∈ wsA := List.mem_filter.mpr ⟨wt_4 (List.mem_of_getElem? (i := 232) rfl), rfl⟩
theorem wq4_233 : Jvm.Cond.instanceMethod ({ cls := "NoticeBoxesModel", name := "undo", desc := "(I)I" } : Jvm.MethodName) ∈ wsA := List.mem_filter.mpr ⟨wt_4 (List.mem_of_getElem? (i := 233) rfl), rfl⟩
theorem wq4_234 : Jvm.Cond.selects "NoticeBoxesModel" ({ cls := "NoticeBoxesModel", name := "undo", desc := "(I)I" } : Jvm.MethodName) ({ cls := "NoticeBoxesModel", name := "undo", desc := "(I)I" } : Jvm.MethodName) ∈ wsA := List.mem_filter.mpr ⟨wt_4 (List.mem_of_getElem? (i := 234) rfl), rfl⟩
theorem wq4_235 : Jvm.Cond.code ({ cls := "NoticeBoxesModel", name := "undo", desc := "(I)I" } : Jvm.MethodName) prog_13_method_64_code (3 : Nat) (Option.some Jvm.ClassFile.FieldType.int) ∈ wsA := List.mem_filter.mpr ⟨wt_4 (List.mem_of_getElem? (i := 235) rfl), rfl⟩
theorem wq4_236 : Jvm.Cond.methodLink "NoticeBoxesLaw" (98 : Nat) ({ cls := "NoticeBoxesModel", name := "write", desc := "(II)I" } : Jvm.MethodName) ∈ wsA := List.mem_filter.mpr ⟨wt_4 (List.mem_of_getElem? (i := 236) rfl), rfl⟩
theorem wq4_237 : Jvm.Cond.instanceMethod ({ cls := "NoticeBoxesModel", name := "write", desc := "(II)I" } : Jvm.MethodName) ∈ wsA := List.mem_filter.mpr ⟨wt_4 (List.mem_of_getElem? (i := 237) rfl), rfl⟩
theorem wq4_238 : Jvm.Cond.selects "NoticeBoxesModel" ({ cls := "NoticeBoxesModel", name := "write", desc := "(II)I" } : Jvm.MethodName) ({ cls := "NoticeBoxesModel", name := "write", desc := "(II)I" } : Jvm.MethodName) ∈ wsA := List.mem_filter.mpr ⟨wt_4 (List.mem_of_getElem? (i := 238) rfl), rfl⟩
theorem wq4_239 : Jvm.Cond.code ({ cls := "NoticeBoxesModel", name := "write", desc := "(II)I" } : Jvm.MethodName) prog_13_method_65_code (3 : Nat) (Option.some Jvm.ClassFile.FieldType.int) ∈ wsA := List.mem_filter.mpr ⟨wt_4 (List.mem_of_getElem? (i := 239) rfl), rfl⟩
theorem wq5_0 : Jvm.Cond.methodLink "NoticeBoxesLaw" (102 : Nat) ({ cls := "NoticeBoxesModel", name := "tear", desc := "()I" } : Jvm.MethodName) ∈ wsA := List.mem_filter.mpr ⟨wt_5 (List.mem_of_getElem? (i := 0) rfl), rfl⟩
theorem wq5_1 : Jvm.Cond.instanceMethod ({ cls := "NoticeBoxesModel", name := "tear", desc := "()I" } : Jvm.MethodName) ∈ wsA := List.mem_filter.mpr ⟨wt_5 (List.mem_of_getElem? (i := 1) rfl), rfl⟩
theorem wq5_2 : Jvm.Cond.selects "NoticeBoxesModel" ({ cls := "NoticeBoxesModel", name := "tear", desc := "()I" } : Jvm.MethodName) ({ cls := "NoticeBoxesModel", name := "tear", desc := "()I" } : Jvm.MethodName) ∈ wsA := List.mem_filter.mpr ⟨wt_5 (List.mem_of_getElem? (i := 2) rfl), rfl⟩
theorem wq5_3 : Jvm.Cond.code ({ cls := "NoticeBoxesModel", name := "tear", desc := "()I" } : Jvm.MethodName) prog_13_method_66_code (2 : Nat) (Option.some Jvm.ClassFile.FieldType.int) ∈ wsA := List.mem_filter.mpr ⟨wt_5 (List.mem_of_getElem? (i := 3) rfl), rfl⟩
theorem wq5_4 : Jvm.Cond.methodLink "NoticeBoxesLaw" (106 : Nat) ({ cls := "NoticeBoxesModel", name := "seed", desc := "(I)I" } : Jvm.MethodName) ∈ wsA := List.mem_filter.mpr ⟨wt_5 (List.mem_of_getElem? (i := 4) rfl), rfl⟩
theorem wq5_5 : Jvm.Cond.instanceMethod ({ cls := "NoticeBoxesModel", name := "seed", desc := "(I)I" } : Jvm.MethodName) ∈ wsA := List.mem_filter.mpr ⟨wt_5 (List.mem_of_getElem? (i := 5) rfl), rfl⟩
theorem wq5_6 : Jvm.Cond.selects "NoticeBoxesModel" ({ cls := "NoticeBoxesModel", name := "seed", desc := "(I)I" } : Jvm.MethodName) ({ cls := "NoticeBoxesModel", name := "seed", desc := "(I)I" } : Jvm.MethodName) ∈ wsA := List.mem_filter.mpr ⟨wt_5 (List.mem_of_getElem? (i := 6) rfl), rfl⟩
theorem wq5_7 : Jvm.Cond.code ({ cls := "NoticeBoxesModel", name := "seed", desc := "(I)I" } : Jvm.MethodName) prog_13_method_67_code (3 : Nat) (Option.some Jvm.ClassFile.FieldType.int) ∈ wsA := List.mem_filter.mpr ⟨wt_5 (List.mem_of_getElem? (i := 7) rfl), rfl⟩
theorem wq5_8 : Jvm.Cond.methodLink "NoticeBoxesLaw" (110 : Nat) ({ cls := "NoticeBoxesModel", name := "keep", desc := "(I)I" } : Jvm.MethodName) ∈ wsA := List.mem_filter.mpr ⟨wt_5 (List.mem_of_getElem? (i := 8) rfl), rfl⟩
theorem wq5_9 : Jvm.Cond.instanceMethod ({ cls := "NoticeBoxesModel", name := "keep", desc := "(I)I" } : Jvm.MethodName) ∈ wsA := List.mem_filter.mpr ⟨wt_5 (List.mem_of_getElem? (i := 9) rfl), rfl⟩
theorem wq5_10 : Jvm.Cond.selects "NoticeBoxesModel" ({ cls := "NoticeBoxesModel", name := "keep", desc := "(I)I" } : Jvm.MethodName) ({ cls := "NoticeBoxesModel", name := "keep", desc := "(I)I" } : Jvm.MethodName) ∈ wsA := List.mem_filter.mpr ⟨wt_5 (List.mem_of_getElem? (i := 10) rfl), rfl⟩
theorem wq5_11 : Jvm.Cond.code ({ cls := "NoticeBoxesModel", name := "keep", desc := "(I)I" } : Jvm.MethodName) prog_13_method_68_code (3 : Nat) (Option.some Jvm.ClassFile.FieldType.int) ∈ wsA := List.mem_filter.mpr ⟨wt_5 (List.mem_of_getElem? (i := 11) rfl), rfl⟩
theorem wq5_12 : Jvm.Cond.methodLink "NoticeBoxesLaw" (114 : Nat) ({ cls := "NoticeBoxesModel", name := "goBack", desc := "(I)I" } : Jvm.MethodName) ∈ wsA := List.mem_filter.mpr ⟨wt_5 (List.mem_of_getElem? (i := 12) rfl), rfl⟩
theorem wq5_13 : Jvm.Cond.instanceMethod ({ cls := "NoticeBoxesModel", name := "goBack", desc := "(I)I" } : Jvm.MethodName) ∈ wsA := List.mem_filter.mpr ⟨wt_5 (List.mem_of_getElem? (i := 13) rfl), rfl⟩
theorem wq5_14 : Jvm.Cond.selects "NoticeBoxesModel" ({ cls := "NoticeBoxesModel", name := "goBack", desc := "(I)I" } : Jvm.MethodName) ({ cls := "NoticeBoxesModel", name := "goBack", desc := "(I)I" } : Jvm.MethodName) ∈ wsA := List.mem_filter.mpr ⟨wt_5 (List.mem_of_getElem? (i := 14) rfl), rfl⟩
theorem wq5_15 : Jvm.Cond.code ({ cls := "NoticeBoxesModel", name := "goBack", desc := "(I)I" } : Jvm.MethodName) prog_13_method_69_code (3 : Nat) (Option.some Jvm.ClassFile.FieldType.int) ∈ wsA := List.mem_filter.mpr ⟨wt_5 (List.mem_of_getElem? (i := 15) rfl), rfl⟩
theorem wp1_0 : Jvm.Cond.selects "NoticeBoxes$Tellings" ({ cls := "NoticeBoxes$Tellings", name := "gather", desc := "(LNoticeBoxes$State;II)V" } : Jvm.MethodName) ({ cls := "NoticeBoxes$Tellings", name := "gather", desc := "(LNoticeBoxes$State;II)V" } : Jvm.MethodName) ∈ wsA := List.mem_filter.mpr ⟨wpv_1 (List.mem_of_getElem? (i := 0) rfl), rfl⟩
theorem wp1_1 : Jvm.Cond.selects "NoticeBoxes$BoxList" ({ cls := "NoticeBoxes$BoxList", name := "removeCoveredBy", desc := "(I)V" } : Jvm.MethodName) ({ cls := "NoticeBoxes$BoxList", name := "removeCoveredBy", desc := "(I)V" } : Jvm.MethodName) ∈ wsA := List.mem_filter.mpr ⟨wpv_1 (List.mem_of_getElem? (i := 1) rfl), rfl⟩
theorem wp1_2 : Jvm.Cond.selects "NoticeBoxes$BoxList" ({ cls := "NoticeBoxes$BoxList", name := "insert", desc := "(I)V" } : Jvm.MethodName) ({ cls := "NoticeBoxes$BoxList", name := "insert", desc := "(I)V" } : Jvm.MethodName) ∈ wsA := List.mem_filter.mpr ⟨wpv_1 (List.mem_of_getElem? (i := 2) rfl), rfl⟩
theorem wp1_3 : Jvm.Cond.selects "NoticeBoxes$Journey" ({ cls := "NoticeBoxes$Journey", name := "goOn", desc := "(LNoticeBoxes$State;LNoticeBoxes$Tellings;II)Z" } : Jvm.MethodName) ({ cls := "NoticeBoxes$Journey", name := "goOn", desc := "(LNoticeBoxes$State;LNoticeBoxes$Tellings;II)Z" } : Jvm.MethodName) ∈ wsA := List.mem_filter.mpr ⟨wpv_1 (List.mem_of_getElem? (i := 3) rfl), rfl⟩
theorem wp1_4 : Jvm.Cond.selects "NoticeBoxes" ({ cls := "NoticeBoxes", name := "deliver", desc := "(II)I" } : Jvm.MethodName) ({ cls := "NoticeBoxes", name := "deliver", desc := "(II)I" } : Jvm.MethodName) ∈ wsA := List.mem_filter.mpr ⟨wpv_1 (List.mem_of_getElem? (i := 4) rfl), rfl⟩
theorem wp1_5 : Jvm.Cond.selects "NoticeBoxes$Client" ({ cls := "NoticeBoxes$Client", name := "enter", desc := "(I)V" } : Jvm.MethodName) ({ cls := "NoticeBoxes$Client", name := "enter", desc := "(I)V" } : Jvm.MethodName) ∈ wsA := List.mem_filter.mpr ⟨wpv_1 (List.mem_of_getElem? (i := 5) rfl), rfl⟩
theorem wp1_6 : Jvm.Cond.selects "NoticeBoxes$Client" ({ cls := "NoticeBoxes$Client", name := "store", desc := "(I)V" } : Jvm.MethodName) ({ cls := "NoticeBoxes$Client", name := "store", desc := "(I)V" } : Jvm.MethodName) ∈ wsA := List.mem_filter.mpr ⟨wpv_1 (List.mem_of_getElem? (i := 6) rfl), rfl⟩
theorem wp1_7 : Jvm.Cond.selects "NoticeBoxes$Client" ({ cls := "NoticeBoxes$Client", name := "loseFirst", desc := "()V" } : Jvm.MethodName) ({ cls := "NoticeBoxes$Client", name := "loseFirst", desc := "()V" } : Jvm.MethodName) ∈ wsA := List.mem_filter.mpr ⟨wpv_1 (List.mem_of_getElem? (i := 7) rfl), rfl⟩
theorem wp1_8 : Jvm.Cond.selects "NoticeBoxesModel" ({ cls := "NoticeBoxesModel", name := "allTold", desc := "()I" } : Jvm.MethodName) ({ cls := "NoticeBoxesModel", name := "allTold", desc := "()I" } : Jvm.MethodName) ∈ wsA := List.mem_filter.mpr ⟨wpv_1 (List.mem_of_getElem? (i := 8) rfl), rfl⟩
theorem wp1_9 : Jvm.Cond.selects "NoticeBoxesModel" ({ cls := "NoticeBoxesModel", name := "lays", desc := "()V" } : Jvm.MethodName) ({ cls := "NoticeBoxesModel", name := "lays", desc := "()V" } : Jvm.MethodName) ∈ wsA := List.mem_filter.mpr ⟨wpv_1 (List.mem_of_getElem? (i := 9) rfl), rfl⟩
theorem wp1_10 : Jvm.Cond.selects "NoticeBoxesModel" ({ cls := "NoticeBoxesModel", name := "laysLink", desc := "(II)V" } : Jvm.MethodName) ({ cls := "NoticeBoxesModel", name := "laysLink", desc := "(II)V" } : Jvm.MethodName) ∈ wsA := List.mem_filter.mpr ⟨wpv_1 (List.mem_of_getElem? (i := 10) rfl), rfl⟩
theorem wp1_11 : Jvm.Cond.selects "NoticeBoxesModel" ({ cls := "NoticeBoxesModel", name := "gathersWishes", desc := "(I)V" } : Jvm.MethodName) ({ cls := "NoticeBoxesModel", name := "gathersWishes", desc := "(I)V" } : Jvm.MethodName) ∈ wsA := List.mem_filter.mpr ⟨wpv_1 (List.mem_of_getElem? (i := 11) rfl), rfl⟩
theorem wp1_12 : Jvm.Cond.selects "NoticeBoxesModel" ({ cls := "NoticeBoxesModel", name := "wish", desc := "(II)I" } : Jvm.MethodName) ({ cls := "NoticeBoxesModel", name := "wish", desc := "(II)I" } : Jvm.MethodName) ∈ wsA := List.mem_filter.mpr ⟨wpv_1 (List.mem_of_getElem? (i := 12) rfl), rfl⟩
theorem wp1_13 : Jvm.Cond.selects "NoticeBoxesModel" ({ cls := "NoticeBoxesModel", name := "of", desc := "(II)I" } : Jvm.MethodName) ({ cls := "NoticeBoxesModel", name := "of", desc := "(II)I" } : Jvm.MethodName) ∈ wsA := List.mem_filter.mpr ⟨wpv_1 (List.mem_of_getElem? (i := 13) rfl), rfl⟩
theorem wp1_14 : Jvm.Cond.selects "NoticeBoxesModel" ({ cls := "NoticeBoxesModel", name := "comes", desc := "()V" } : Jvm.MethodName) ({ cls := "NoticeBoxesModel", name := "comes", desc := "()V" } : Jvm.MethodName) ∈ wsA := List.mem_filter.mpr ⟨wpv_1 (List.mem_of_getElem? (i := 14) rfl), rfl⟩
theorem wp1_15 : Jvm.Cond.selects "NoticeBoxesModel" ({ cls := "NoticeBoxesModel", name := "covers", desc := "(II)Z" } : Jvm.MethodName) ({ cls := "NoticeBoxesModel", name := "covers", desc := "(II)Z" } : Jvm.MethodName) ∈ wsA := List.mem_filter.mpr ⟨wpv_1 (List.mem_of_getElem? (i := 15) rfl), rfl⟩
theorem wp2_0 : Jvm.Cond.selects "NoticeBoxesModel" ({ cls := "NoticeBoxesModel", name := "at", desc := "(II)I" } : Jvm.MethodName) ({ cls := "NoticeBoxesModel", name := "at", desc := "(II)I" } : Jvm.MethodName) ∈ wsA := List.mem_filter.mpr ⟨wpv_2 (List.mem_of_getElem? (i := 0) rfl), rfl⟩
theorem wp2_1 : Jvm.Cond.selects "NoticeBoxesModel" ({ cls := "NoticeBoxesModel", name := "copies", desc := "(II)V" } : Jvm.MethodName) ({ cls := "NoticeBoxesModel", name := "copies", desc := "(II)V" } : Jvm.MethodName) ∈ wsA := List.mem_filter.mpr ⟨wpv_2 (List.mem_of_getElem? (i := 1) rfl), rfl⟩
theorem wp2_2 : Jvm.Cond.selects "NoticeBoxesModel" ({ cls := "NoticeBoxesModel", name := "settles", desc := "()V" } : Jvm.MethodName) ({ cls := "NoticeBoxesModel", name := "settles", desc := "()V" } : Jvm.MethodName) ∈ wsA := List.mem_filter.mpr ⟨wpv_2 (List.mem_of_getElem? (i := 2) rfl), rfl⟩
theorem wp2_3 : Jvm.Cond.selects "NoticeBoxesModel" ({ cls := "NoticeBoxesModel", name := "order", desc := "(II)I" } : Jvm.MethodName) ({ cls := "NoticeBoxesModel", name := "order", desc := "(II)I" } : Jvm.MethodName) ∈ wsA := List.mem_filter.mpr ⟨wpv_2 (List.mem_of_getElem? (i := 3) rfl), rfl⟩
theorem wp2_4 : Jvm.Cond.selects "NoticeBoxesModel" ({ cls := "NoticeBoxesModel", name := "areNeighbours", desc := "(II)Z" } : Jvm.MethodName) ({ cls := "NoticeBoxesModel", name := "areNeighbours", desc := "(II)Z" } : Jvm.MethodName) ∈ wsA := List.mem_filter.mpr ⟨wpv_2 (List.mem_of_getElem? (i := 4) rfl), rfl⟩
theorem wp2_5 : Jvm.Cond.selects "NoticeBoxesModel" ({ cls := "NoticeBoxesModel", name := "isBroker", desc := "(I)Z" } : Jvm.MethodName) ({ cls := "NoticeBoxesModel", name := "isBroker", desc := "(I)Z" } : Jvm.MethodName) ∈ wsA := List.mem_filter.mpr ⟨wpv_2 (List.mem_of_getElem? (i := 5) rfl), rfl⟩
theorem wp2_6 : Jvm.Cond.selects "NoticeBoxesModel" ({ cls := "NoticeBoxesModel", name := "linkOf", desc := "(II)I" } : Jvm.MethodName) ({ cls := "NoticeBoxesModel", name := "linkOf", desc := "(II)I" } : Jvm.MethodName) ∈ wsA := List.mem_filter.mpr ⟨wpv_2 (List.mem_of_getElem? (i := 6) rfl), rfl⟩
theorem wp2_7 : Jvm.Cond.selects "NoticeBoxesModel" ({ cls := "NoticeBoxesModel", name := "gathersLink", desc := "(I)V" } : Jvm.MethodName) ({ cls := "NoticeBoxesModel", name := "gathersLink", desc := "(I)V" } : Jvm.MethodName) ∈ wsA := List.mem_filter.mpr ⟨wpv_2 (List.mem_of_getElem? (i := 7) rfl), rfl⟩
theorem wp2_8 : Jvm.Cond.selects "NoticeBoxesModel" ({ cls := "NoticeBoxesModel", name := "joins", desc := "()V" } : Jvm.MethodName) ({ cls := "NoticeBoxesModel", name := "joins", desc := "()V" } : Jvm.MethodName) ∈ wsA := List.mem_filter.mpr ⟨wpv_2 (List.mem_of_getElem? (i := 8) rfl), rfl⟩
theorem wp2_9 : Jvm.Cond.selects "NoticeBoxesModel" ({ cls := "NoticeBoxesModel", name := "wasteOf", desc := "(II)I" } : Jvm.MethodName) ({ cls := "NoticeBoxesModel", name := "wasteOf", desc := "(II)I" } : Jvm.MethodName) ∈ wsA := List.mem_filter.mpr ⟨wpv_2 (List.mem_of_getElem? (i := 9) rfl), rfl⟩
theorem wp2_10 : Jvm.Cond.selects "NoticeBoxesModel" ({ cls := "NoticeBoxesModel", name := "sizeOf", desc := "(I)I" } : Jvm.MethodName) ({ cls := "NoticeBoxesModel", name := "sizeOf", desc := "(I)I" } : Jvm.MethodName) ∈ wsA := List.mem_filter.mpr ⟨wpv_2 (List.mem_of_getElem? (i := 10) rfl), rfl⟩
theorem wp2_11 : Jvm.Cond.selects "NoticeBoxesModel" ({ cls := "NoticeBoxesModel", name := "shared", desc := "(II)I" } : Jvm.MethodName) ({ cls := "NoticeBoxesModel", name := "shared", desc := "(II)I" } : Jvm.MethodName) ∈ wsA := List.mem_filter.mpr ⟨wpv_2 (List.mem_of_getElem? (i := 11) rfl), rfl⟩
theorem wp2_12 : Jvm.Cond.selects "NoticeBoxesModel" ({ cls := "NoticeBoxesModel", name := "wrong", desc := "()I" } : Jvm.MethodName) ({ cls := "NoticeBoxesModel", name := "wrong", desc := "()I" } : Jvm.MethodName) ∈ wsA := List.mem_filter.mpr ⟨wpv_2 (List.mem_of_getElem? (i := 12) rfl), rfl⟩
theorem wp2_13 : Jvm.Cond.selects "NoticeBoxesModel" ({ cls := "NoticeBoxesModel", name := "isClient", desc := "(I)Z" } : Jvm.MethodName) ({ cls := "NoticeBoxesModel", name := "isClient", desc := "(I)Z" } : Jvm.MethodName) ∈ wsA := List.mem_filter.mpr ⟨wpv_2 (List.mem_of_getElem? (i := 13) rfl), rfl⟩
theorem wp2_14 : Jvm.Cond.selects "NoticeBoxesModel" ({ cls := "NoticeBoxesModel", name := "isWish", desc := "(I)Z" } : Jvm.MethodName) ({ cls := "NoticeBoxesModel", name := "isWish", desc := "(I)Z" } : Jvm.MethodName) ∈ wsA := List.mem_filter.mpr ⟨wpv_2 (List.mem_of_getElem? (i := 14) rfl), rfl⟩
theorem wp2_15 : Jvm.Cond.selects "NoticeBoxesModel" ({ cls := "NoticeBoxesModel", name := "takesWish", desc := "(II)V" } : Jvm.MethodName) ({ cls := "NoticeBoxesModel", name := "takesWish", desc := "(II)V" } : Jvm.MethodName) ∈ wsA := List.mem_filter.mpr ⟨wpv_2 (List.mem_of_getElem? (i := 15) rfl), rfl⟩
theorem wp3_0 : Jvm.Cond.selects "NoticeBoxesModel" ({ cls := "NoticeBoxesModel", name := "covered", desc := "(I)I" } : Jvm.MethodName) ({ cls := "NoticeBoxesModel", name := "covered", desc := "(I)I" } : Jvm.MethodName) ∈ wsA := List.mem_filter.mpr ⟨wpv_3 (List.mem_of_getElem? (i := 0) rfl), rfl⟩
theorem wp3_1 : Jvm.Cond.selects "NoticeBoxesModel" ({ cls := "NoticeBoxesModel", name := "isWishBox", desc := "()Z" } : Jvm.MethodName) ({ cls := "NoticeBoxesModel", name := "isWishBox", desc := "()Z" } : Jvm.MethodName) ∈ wsA := List.mem_filter.mpr ⟨wpv_3 (List.mem_of_getElem? (i := 1) rfl), rfl⟩
theorem wp3_2 : Jvm.Cond.selects "NoticeBoxesModel" ({ cls := "NoticeBoxesModel", name := "walks", desc := "(IIII)V" } : Jvm.MethodName) ({ cls := "NoticeBoxesModel", name := "walks", desc := "(IIII)V" } : Jvm.MethodName) ∈ wsA := List.mem_filter.mpr ⟨wpv_3 (List.mem_of_getElem? (i := 2) rfl), rfl⟩
theorem wp3_3 : Jvm.Cond.selects "NoticeBoxesModel" ({ cls := "NoticeBoxesModel", name := "goes", desc := "(IIIII)Z" } : Jvm.MethodName) ({ cls := "NoticeBoxesModel", name := "goes", desc := "(IIIII)Z" } : Jvm.MethodName) ∈ wsA := List.mem_filter.mpr ⟨wpv_3 (List.mem_of_getElem? (i := 3) rfl), rfl⟩
theorem wp3_4 : Jvm.Cond.selects "NoticeBoxesModel" ({ cls := "NoticeBoxesModel", name := "isWished", desc := "(IIII)Z" } : Jvm.MethodName) ({ cls := "NoticeBoxesModel", name := "isWished", desc := "(IIII)Z" } : Jvm.MethodName) ∈ wsA := List.mem_filter.mpr ⟨wpv_3 (List.mem_of_getElem? (i := 4) rfl), rfl⟩
theorem wp3_5 : Jvm.Cond.selects "NoticeBoxesModel" ({ cls := "NoticeBoxesModel", name := "deed", desc := "()V" } : Jvm.MethodName) ({ cls := "NoticeBoxesModel", name := "deed", desc := "()V" } : Jvm.MethodName) ∈ wsA := List.mem_filter.mpr ⟨wpv_3 (List.mem_of_getElem? (i := 5) rfl), rfl⟩
theorem wp3_6 : Jvm.Cond.selects "NoticeBoxesModel" ({ cls := "NoticeBoxesModel", name := "sets", desc := "(III)V" } : Jvm.MethodName) ({ cls := "NoticeBoxesModel", name := "sets", desc := "(III)V" } : Jvm.MethodName) ∈ wsA := List.mem_filter.mpr ⟨wpv_3 (List.mem_of_getElem? (i := 6) rfl), rfl⟩
theorem wp3_7 : Jvm.Cond.selects "NoticeBoxesModel" ({ cls := "NoticeBoxesModel", name := "bounds", desc := "(IIII)V" } : Jvm.MethodName) ({ cls := "NoticeBoxesModel", name := "bounds", desc := "(IIII)V" } : Jvm.MethodName) ∈ wsA := List.mem_filter.mpr ⟨wpv_3 (List.mem_of_getElem? (i := 7) rfl), rfl⟩
theorem wp3_8 : Jvm.Cond.selects "NoticeBoxesModel" ({ cls := "NoticeBoxesModel", name := "dropsWish", desc := "(I)V" } : Jvm.MethodName) ({ cls := "NoticeBoxesModel", name := "dropsWish", desc := "(I)V" } : Jvm.MethodName) ∈ wsA := List.mem_filter.mpr ⟨wpv_3 (List.mem_of_getElem? (i := 8) rfl), rfl⟩
theorem wp3_9 : Jvm.Cond.selects "NoticeBoxesModel" ({ cls := "NoticeBoxesModel", name := "puts", desc := "(IIII)I" } : Jvm.MethodName) ({ cls := "NoticeBoxesModel", name := "puts", desc := "(IIII)I" } : Jvm.MethodName) ∈ wsA := List.mem_filter.mpr ⟨wpv_3 (List.mem_of_getElem? (i := 9) rfl), rfl⟩
theorem wp3_10 : Jvm.Cond.selects "NoticeBoxesModel" ({ cls := "NoticeBoxesModel", name := "logs", desc := "(II)V" } : Jvm.MethodName) ({ cls := "NoticeBoxesModel", name := "logs", desc := "(II)V" } : Jvm.MethodName) ∈ wsA := List.mem_filter.mpr ⟨wpv_3 (List.mem_of_getElem? (i := 10) rfl), rfl⟩
theorem wp3_11 : Jvm.Cond.selects "NoticeBoxesModel" ({ cls := "NoticeBoxesModel", name := "waits", desc := "(II)V" } : Jvm.MethodName) ({ cls := "NoticeBoxesModel", name := "waits", desc := "(II)V" } : Jvm.MethodName) ∈ wsA := List.mem_filter.mpr ⟨wpv_3 (List.mem_of_getElem? (i := 11) rfl), rfl⟩
theorem wp3_12 : Jvm.Cond.selects "NoticeBoxesModel" ({ cls := "NoticeBoxesModel", name := "draws", desc := "(I)I" } : Jvm.MethodName) ({ cls := "NoticeBoxesModel", name := "draws", desc := "(I)I" } : Jvm.MethodName) ∈ wsA := List.mem_filter.mpr ⟨wpv_3 (List.mem_of_getElem? (i := 12) rfl), rfl⟩
theorem wf0 : ∀ w ∈ u_ws RX0 TX0 3, w ∈ wsA := by
  intro w hw
  obtain ⟨k, hk, rfl⟩ := List.mem_map.mp hw
  have hk := List.mem_range.mp hk
  match k, hk with
  | 0, _ => exact wq1_212
  | 1, _ => exact wq1_214
  | 2, _ => exact wq1_216
theorem wf2 : ∀ w ∈ u_ws RX2 TX2 2, w ∈ wsA := by
  intro w hw
  obtain ⟨k, hk, rfl⟩ := List.mem_map.mp hw
  have hk := List.mem_range.mp hk
  match k, hk with
  | 0, _ => exact wq1_138
  | 1, _ => exact wq1_140
theorem wf3 : ∀ w ∈ u_ws RX3 TX3 7, w ∈ wsA := by
  intro w hw
  obtain ⟨k, hk, rfl⟩ := List.mem_map.mp hw
  have hk := List.mem_range.mp hk
  match k, hk with
  | 0, _ => exact wq1_51
  | 1, _ => exact wq1_53
  | 2, _ => exact wq1_55
  | 3, _ => exact wq1_57
  | 4, _ => exact wq1_59
  | 5, _ => exact wq1_61
  | 6, _ => exact wq1_63
theorem wf4 : ∀ w ∈ u_ws RX4 TX4 1, w ∈ wsA := by
  intro w hw
  obtain ⟨k, hk, rfl⟩ := List.mem_map.mp hw
  have hk := List.mem_range.mp hk
  match k, hk with
  | 0, _ => exact wq1_228
theorem wf5 : ∀ w ∈ u_ws RX5 TX5 3, w ∈ wsA := by
  intro w hw
  obtain ⟨k, hk, rfl⟩ := List.mem_map.mp hw
  have hk := List.mem_range.mp hk
  match k, hk with
  | 0, _ => exact wq2_4
  | 1, _ => exact wq2_6
  | 2, _ => exact wq2_8
theorem wf6 : ∀ w ∈ u_ws RX6 TX6 5, w ∈ wsA := by
  intro w hw
  obtain ⟨k, hk, rfl⟩ := List.mem_map.mp hw
  have hk := List.mem_range.mp hk
  match k, hk with
  | 0, _ => exact wq1_171
  | 1, _ => exact wq1_173
  | 2, _ => exact wq1_175
  | 3, _ => exact wq1_177
  | 4, _ => exact wq1_179
theorem wf7 : ∀ w ∈ u_ws RX7 TX7 3, w ∈ wsA := by
  intro w hw
  obtain ⟨k, hk, rfl⟩ := List.mem_map.mp hw
  have hk := List.mem_range.mp hk
  match k, hk with
  | 0, _ => exact wq1_195
  | 1, _ => exact wq1_197
  | 2, _ => exact wq1_199
theorem wf8 : ∀ w ∈ u_ws RX8 TX8 11, w ∈ wsA := by
  intro w hw
  obtain ⟨k, hk, rfl⟩ := List.mem_map.mp hw
  have hk := List.mem_range.mp hk
  match k, hk with
  | 0, _ => exact wq1_96
  | 1, _ => exact wq1_98
  | 2, _ => exact wq1_100
  | 3, _ => exact wq1_102
  | 4, _ => exact wq1_104
  | 5, _ => exact wq1_106
  | 6, _ => exact wq1_108
  | 7, _ => exact wq1_110
  | 8, _ => exact wq1_112
  | 9, _ => exact wq1_114
  | 10, _ => exact wq1_116
theorem wf9 : ∀ w ∈ u_ws RX9 TX9 3, w ∈ wsA := by
  intro w hw
  obtain ⟨k, hk, rfl⟩ := List.mem_map.mp hw
  have hk := List.mem_range.mp hk
  match k, hk with
  | 0, _ => exact wq1_146
  | 1, _ => exact wq1_148
  | 2, _ => exact wq1_150
theorem wf10 : ∀ w ∈ u_ws RX10 TX10 7, w ∈ wsA := by
  intro w hw
  obtain ⟨k, hk, rfl⟩ := List.mem_map.mp hw
  have hk := List.mem_range.mp hk
  match k, hk with
  | 0, _ => exact wq2_18
  | 1, _ => exact wq2_20
  | 2, _ => exact wq2_22
  | 3, _ => exact wq2_24
  | 4, _ => exact wq2_26
  | 5, _ => exact wq2_28
  | 6, _ => exact wq2_30
theorem wf11 : ∀ w ∈ u_ws RX11 TX11 19, w ∈ wsA := by
  intro w hw
  obtain ⟨k, hk, rfl⟩ := List.mem_map.mp hw
  have hk := List.mem_range.mp hk
  match k, hk with
  | 0, _ => exact wq3_186
  | 1, _ => exact wq3_188
  | 2, _ => exact wq3_190
  | 3, _ => exact wq3_192
  | 4, _ => exact wq3_194
  | 5, _ => exact wq3_196
  | 6, _ => exact wq3_198
  | 7, _ => exact wq3_200
  | 8, _ => exact wq3_202
  | 9, _ => exact wq3_204
  | 10, _ => exact wq3_206
  | 11, _ => exact wq3_208
  | 12, _ => exact wq3_210
  | 13, _ => exact wq3_212
  | 14, _ => exact wq3_214
  | 15, _ => exact wq3_216
  | 16, _ => exact wq3_218
  | 17, _ => exact wq3_220
  | 18, _ => exact wq3_222
  | k + 19, hk => exact absurd hk (by omega)
