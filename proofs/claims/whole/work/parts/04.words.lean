/-! MY WORDS: the good words of the tables, each by its place. -/
def LW : List Cond := lw_tbl.filter goodWord
theorem lw_in {w : Cond} (h : w ∈ lw_tbl) (hg : goodWord w = true) : w ∈ LW := List.mem_filter.mpr ⟨h, hg⟩
theorem lw_t1 {w : Cond} (h : w ∈ tables_1_1) (hg : goodWord w = true) : w ∈ LW := lw_in (List.mem_append_right _ (show w ∈ tables_1_1 ++ (tables_1_2 ++ (tables_1_3 ++ (tables_1_4 ++ (tables_1_5 ++ tables_1_6)))) from List.mem_append_left _ (h))) hg
theorem lw_t2 {w : Cond} (h : w ∈ tables_1_2) (hg : goodWord w = true) : w ∈ LW := lw_in (List.mem_append_right _ (show w ∈ tables_1_1 ++ (tables_1_2 ++ (tables_1_3 ++ (tables_1_4 ++ (tables_1_5 ++ tables_1_6)))) from List.mem_append_right _ (List.mem_append_left _ (h)))) hg
theorem lw_t3 {w : Cond} (h : w ∈ tables_1_3) (hg : goodWord w = true) : w ∈ LW := lw_in (List.mem_append_right _ (show w ∈ tables_1_1 ++ (tables_1_2 ++ (tables_1_3 ++ (tables_1_4 ++ (tables_1_5 ++ tables_1_6)))) from List.mem_append_right _ (List.mem_append_right _ (List.mem_append_left _ (h))))) hg
theorem lw_t4 {w : Cond} (h : w ∈ tables_1_4) (hg : goodWord w = true) : w ∈ LW := lw_in (List.mem_append_right _ (show w ∈ tables_1_1 ++ (tables_1_2 ++ (tables_1_3 ++ (tables_1_4 ++ (tables_1_5 ++ tables_1_6)))) from List.mem_append_right _ (List.mem_append_right _ (List.mem_append_right _ (List.mem_append_left _ (h)))))) hg
theorem lw_t5 {w : Cond} (h : w ∈ tables_1_5) (hg : goodWord w = true) : w ∈ LW := lw_in (List.mem_append_right _ (show w ∈ tables_1_1 ++ (tables_1_2 ++ (tables_1_3 ++ (tables_1_4 ++ (tables_1_5 ++ tables_1_6)))) from List.mem_append_right _ (List.mem_append_right _ (List.mem_append_right _ (List.mem_append_right _ (List.mem_append_left _ (h))))))) hg
theorem lw_t6 {w : Cond} (h : w ∈ tables_1_6) (hg : goodWord w = true) : w ∈ LW := lw_in (List.mem_append_right _ (show w ∈ tables_1_1 ++ (tables_1_2 ++ (tables_1_3 ++ (tables_1_4 ++ (tables_1_5 ++ tables_1_6)))) from List.mem_append_right _ (List.mem_append_right _ (List.mem_append_right _ (List.mem_append_right _ (List.mem_append_right _ (h))))))) hg
theorem tp_1_0 : Cond.selects "java/lang/Throwable" (⟨"java/lang/Throwable", "fillInStackTrace", "(I)Ljava/lang/Throwable;"⟩ : MethodName) (⟨"java/lang/Throwable", "fillInStackTrace", "(I)Ljava/lang/Throwable;"⟩ : MethodName) ∈ LW := lw_in (List.mem_append_left _ (List.mem_map.mpr ⟨((⟨"java/lang/Throwable", "fillInStackTrace", "(I)Ljava/lang/Throwable;"⟩ : MethodName), 6), (show _ ∈ lw_privs_1 ++ lw_privs_2 from List.mem_append_left _ (List.mem_of_getElem? (i := 0) rfl)), rfl⟩)) rfl
theorem tp_1_1 : Cond.selects RX10 yX10_wrongRow yX10_wrongRow ∈ LW := lw_in (List.mem_append_left _ (List.mem_map.mpr ⟨(yX10_wrongRow, 19), (show _ ∈ lw_privs_1 ++ lw_privs_2 from List.mem_append_left _ (List.mem_of_getElem? (i := 1) rfl)), rfl⟩)) rfl
theorem tp_1_2 : Cond.selects RX10 yX10_readsStatement yX10_readsStatement ∈ LW := lw_in (List.mem_append_left _ (List.mem_map.mpr ⟨(yX10_readsStatement, 19), (show _ ∈ lw_privs_1 ++ lw_privs_2 from List.mem_append_left _ (List.mem_of_getElem? (i := 2) rfl)), rfl⟩)) rfl
theorem tp_1_3 : Cond.selects RX10 yX10_here yX10_here ∈ LW := lw_in (List.mem_append_left _ (List.mem_map.mpr ⟨(yX10_here, 19), (show _ ∈ lw_privs_1 ++ lw_privs_2 from List.mem_append_left _ (List.mem_of_getElem? (i := 3) rfl)), rfl⟩)) rfl
theorem tp_1_4 : Cond.selects RX10 yX10_readsNumber yX10_readsNumber ∈ LW := lw_in (List.mem_append_left _ (List.mem_map.mpr ⟨(yX10_readsNumber, 19), (show _ ∈ lw_privs_1 ++ lw_privs_2 from List.mem_append_left _ (List.mem_of_getElem? (i := 4) rfl)), rfl⟩)) rfl
theorem tp_1_5 : Cond.selects RX10 yX10_isDone yX10_isDone ∈ LW := lw_in (List.mem_append_left _ (List.mem_map.mpr ⟨(yX10_isDone, 19), (show _ ∈ lw_privs_1 ++ lw_privs_2 from List.mem_append_left _ (List.mem_of_getElem? (i := 5) rfl)), rfl⟩)) rfl
theorem tp_1_6 : Cond.selects RX10 yX10_adds yX10_adds ∈ LW := lw_in (List.mem_append_left _ (List.mem_map.mpr ⟨(yX10_adds, 19), (show _ ∈ lw_privs_1 ++ lw_privs_2 from List.mem_append_left _ (List.mem_of_getElem? (i := 6) rfl)), rfl⟩)) rfl
theorem tp_1_7 : Cond.selects RX10 yX10_isWindow yX10_isWindow ∈ LW := lw_in (List.mem_append_left _ (List.mem_map.mpr ⟨(yX10_isWindow, 19), (show _ ∈ lw_privs_1 ++ lw_privs_2 from List.mem_append_left _ (List.mem_of_getElem? (i := 7) rfl)), rfl⟩)) rfl
theorem tp_1_8 : Cond.selects RX10 yX10_yearsOn yX10_yearsOn ∈ LW := lw_in (List.mem_append_left _ (List.mem_map.mpr ⟨(yX10_yearsOn, 19), (show _ ∈ lw_privs_1 ++ lw_privs_2 from List.mem_append_left _ (List.mem_of_getElem? (i := 8) rfl)), rfl⟩)) rfl
theorem tp_1_9 : Cond.selects RX10 yX10_wrongKept yX10_wrongKept ∈ LW := lw_in (List.mem_append_left _ (List.mem_map.mpr ⟨(yX10_wrongKept, 19), (show _ ∈ lw_privs_1 ++ lw_privs_2 from List.mem_append_left _ (List.mem_of_getElem? (i := 9) rfl)), rfl⟩)) rfl
theorem tp_1_10 : Cond.selects RX10 yX10_isNoDarker yX10_isNoDarker ∈ LW := lw_in (List.mem_append_left _ (List.mem_map.mpr ⟨(yX10_isNoDarker, 19), (show _ ∈ lw_privs_1 ++ lw_privs_2 from List.mem_append_left _ (List.mem_of_getElem? (i := 10) rfl)), rfl⟩)) rfl
theorem tp_1_11 : Cond.selects RX10 yX10_areUnlike yX10_areUnlike ∈ LW := lw_in (List.mem_append_left _ (List.mem_map.mpr ⟨(yX10_areUnlike, 19), (show _ ∈ lw_privs_1 ++ lw_privs_2 from List.mem_append_left _ (List.mem_of_getElem? (i := 11) rfl)), rfl⟩)) rfl
theorem tp_1_12 : Cond.selects RX10 yX10_assessed yX10_assessed ∈ LW := lw_in (List.mem_append_left _ (List.mem_map.mpr ⟨(yX10_assessed, 19), (show _ ∈ lw_privs_1 ++ lw_privs_2 from List.mem_append_left _ (List.mem_of_getElem? (i := 12) rfl)), rfl⟩)) rfl
theorem tp_1_13 : Cond.selects RX10 yX10_answered yX10_answered ∈ LW := lw_in (List.mem_append_left _ (List.mem_map.mpr ⟨(yX10_answered, 19), (show _ ∈ lw_privs_1 ++ lw_privs_2 from List.mem_append_left _ (List.mem_of_getElem? (i := 13) rfl)), rfl⟩)) rfl
theorem tp_1_14 : Cond.selects RX10 yX10_addressed yX10_addressed ∈ LW := lw_in (List.mem_append_left _ (List.mem_map.mpr ⟨(yX10_addressed, 19), (show _ ∈ lw_privs_1 ++ lw_privs_2 from List.mem_append_left _ (List.mem_of_getElem? (i := 14) rfl)), rfl⟩)) rfl
theorem tp_1_15 : Cond.selects RX10 yX10_areTwins yX10_areTwins ∈ LW := lw_in (List.mem_append_left _ (List.mem_map.mpr ⟨(yX10_areTwins, 19), (show _ ∈ lw_privs_1 ++ lw_privs_2 from List.mem_append_left _ (List.mem_of_getElem? (i := 15) rfl)), rfl⟩)) rfl
theorem tp_2_0 : Cond.selects RX10 yX10_drawn yX10_drawn ∈ LW := lw_in (List.mem_append_left _ (List.mem_map.mpr ⟨(yX10_drawn, 19), (show _ ∈ lw_privs_1 ++ lw_privs_2 from List.mem_append_right _ (List.mem_of_getElem? (i := 0) rfl)), rfl⟩)) rfl
theorem tw_1_0 : Cond.initialized RL ∈ LW := lw_t1 (List.mem_of_getElem? (i := 0) rfl) rfl
theorem tw_1_1 : Cond.initialized RX9 ∈ LW := lw_t1 (List.mem_of_getElem? (i := 1) rfl) rfl
theorem tw_1_2 : Cond.initialized RX0 ∈ LW := lw_t1 (List.mem_of_getElem? (i := 2) rfl) rfl
theorem tw_1_3 : Cond.initialized RX6 ∈ LW := lw_t1 (List.mem_of_getElem? (i := 3) rfl) rfl
theorem tw_1_4 : Cond.initialized RX10 ∈ LW := lw_t1 (List.mem_of_getElem? (i := 4) rfl) rfl
theorem tw_1_5 : Cond.initialized RX7 ∈ LW := lw_t1 (List.mem_of_getElem? (i := 5) rfl) rfl
theorem tw_1_6 : Cond.initialized RJ10 ∈ LW := lw_t1 (List.mem_of_getElem? (i := 6) rfl) rfl
theorem tw_1_7 : Cond.initialized RX1 ∈ LW := lw_t1 (List.mem_of_getElem? (i := 7) rfl) rfl
theorem tw_1_8 : Cond.initialized RJ9 ∈ LW := lw_t1 (List.mem_of_getElem? (i := 8) rfl) rfl
theorem tw_1_9 : Cond.initialized RX2 ∈ LW := lw_t1 (List.mem_of_getElem? (i := 9) rfl) rfl
theorem tw_1_10 : Cond.initialized RX4 ∈ LW := lw_t1 (List.mem_of_getElem? (i := 10) rfl) rfl
theorem tw_1_11 : Cond.initialized RJ6 ∈ LW := lw_t1 (List.mem_of_getElem? (i := 11) rfl) rfl
theorem tw_1_12 : Cond.initialized RX8 ∈ LW := lw_t1 (List.mem_of_getElem? (i := 12) rfl) rfl
theorem tw_1_13 : Cond.initialized RX5 ∈ LW := lw_t1 (List.mem_of_getElem? (i := 13) rfl) rfl
theorem tw_1_14 : Cond.initialized RX3 ∈ LW := lw_t1 (List.mem_of_getElem? (i := 14) rfl) rfl
theorem tw_1_15 : Cond.initialized "java/lang/Throwable" ∈ LW := lw_t1 (List.mem_of_getElem? (i := 15) rfl) rfl
theorem tw_1_16 : Cond.initialized "java/lang/Exception" ∈ LW := lw_t1 (List.mem_of_getElem? (i := 16) rfl) rfl
theorem tw_1_17 : Cond.initialized "java/lang/RuntimeException" ∈ LW := lw_t1 (List.mem_of_getElem? (i := 17) rfl) rfl
theorem tw_1_18 : Cond.initialized "java/lang/IllegalArgumentException" ∈ LW := lw_t1 (List.mem_of_getElem? (i := 18) rfl) rfl
theorem tw_1_19 : Cond.initialized "java/lang/IllegalStateException" ∈ LW := lw_t1 (List.mem_of_getElem? (i := 19) rfl) rfl
theorem tw_1_20 : Cond.initialized "java/lang/UnsupportedOperationException" ∈ LW := lw_t1 (List.mem_of_getElem? (i := 20) rfl) rfl
theorem tw_1_21 : Cond.classLink RL 8 RX9 ∈ LW := lw_t1 (List.mem_of_getElem? (i := 21) rfl) rfl
theorem tw_1_22 : Cond.instantiable RX9 5 ∈ LW := lw_t1 (List.mem_of_getElem? (i := 22) rfl) rfl
theorem tw_1_23 : Cond.methodLink RL 17 yX9_init ∈ LW := lw_t1 (List.mem_of_getElem? (i := 23) rfl) rfl
theorem tw_1_24 : Cond.instanceMethod yX9_init ∈ LW := lw_t1 (List.mem_of_getElem? (i := 24) rfl) rfl
theorem tw_1_25 : Cond.code yX9_init cX9_init 2 none ∈ LW := lw_t1 (List.mem_of_getElem? (i := 25) rfl) rfl
theorem tw_1_26 : Cond.methodLink RX9 1 (⟨"java/lang/Object", "<init>", "()V"⟩ : MethodName) ∈ LW := lw_t1 (List.mem_of_getElem? (i := 26) rfl) rfl
theorem tw_1_27 : Cond.instanceMethod (⟨"java/lang/Object", "<init>", "()V"⟩ : MethodName) ∈ LW := lw_t1 (List.mem_of_getElem? (i := 27) rfl) rfl
theorem tw_1_28 : Cond.code (⟨"java/lang/Object", "<init>", "()V"⟩ : MethodName) object_method_1_code 1 none ∈ LW := lw_t1 (List.mem_of_getElem? (i := 28) rfl) rfl
theorem tw_1_29 : Cond.classLink RX9 7 RX0 ∈ LW := lw_t1 (List.mem_of_getElem? (i := 29) rfl) rfl
theorem tw_1_30 : Cond.instantiable RX0 11 ∈ LW := lw_t1 (List.mem_of_getElem? (i := 30) rfl) rfl
theorem tw_1_31 : Cond.methodLink RX9 9 yX0_init ∈ LW := lw_t1 (List.mem_of_getElem? (i := 31) rfl) rfl
theorem tw_1_32 : Cond.instanceMethod yX0_init ∈ LW := lw_t1 (List.mem_of_getElem? (i := 32) rfl) rfl
theorem tw_1_33 : Cond.code yX0_init cX0_init 1 none ∈ LW := lw_t1 (List.mem_of_getElem? (i := 33) rfl) rfl
theorem tw_1_34 : Cond.methodLink RX0 3 (⟨"java/lang/Object", "<init>", "()V"⟩ : MethodName) ∈ LW := lw_t1 (List.mem_of_getElem? (i := 34) rfl) rfl
theorem tw_1_35 : Cond.fieldLink RX0 11 "BrickedUpAsBlind$House" "kinds" "[I" ∈ LW := lw_t1 (List.mem_of_getElem? (i := 35) rfl) rfl
theorem tw_1_36 : Cond.fieldLink RX3 38 "BrickedUpAsBlind$House" "kinds" "[I" ∈ LW := lw_t1 (List.mem_of_getElem? (i := 36) rfl) rfl
theorem tw_1_37 : Cond.fieldLink RX9 62 "BrickedUpAsBlind$House" "kinds" "[I" ∈ LW := lw_t1 (List.mem_of_getElem? (i := 37) rfl) rfl
theorem tw_1_38 : Cond.fieldLink RX8 58 "BrickedUpAsBlind$House" "kinds" "[I" ∈ LW := lw_t1 (List.mem_of_getElem? (i := 38) rfl) rfl
theorem tw_1_39 : Cond.fieldLink RX0 15 "BrickedUpAsBlind$House" "figures" "[I" ∈ LW := lw_t1 (List.mem_of_getElem? (i := 39) rfl) rfl
theorem tw_1_40 : Cond.fieldLink RX9 66 "BrickedUpAsBlind$House" "figures" "[I" ∈ LW := lw_t1 (List.mem_of_getElem? (i := 40) rfl) rfl
theorem tw_1_41 : Cond.fieldLink RX5 45 "BrickedUpAsBlind$House" "figures" "[I" ∈ LW := lw_t1 (List.mem_of_getElem? (i := 41) rfl) rfl
theorem tw_1_42 : Cond.fieldLink RX8 74 "BrickedUpAsBlind$House" "figures" "[I" ∈ LW := lw_t1 (List.mem_of_getElem? (i := 42) rfl) rfl
theorem tw_1_43 : Cond.fieldLink RX0 18 "BrickedUpAsBlind$House" "rooms" "[I" ∈ LW := lw_t1 (List.mem_of_getElem? (i := 43) rfl) rfl
theorem tw_1_44 : Cond.fieldLink RX9 69 "BrickedUpAsBlind$House" "rooms" "[I" ∈ LW := lw_t1 (List.mem_of_getElem? (i := 44) rfl) rfl
theorem tw_1_45 : Cond.fieldLink RX0 21 "BrickedUpAsBlind$House" "facings" "[I" ∈ LW := lw_t1 (List.mem_of_getElem? (i := 45) rfl) rfl
theorem tw_1_46 : Cond.fieldLink RX9 72 "BrickedUpAsBlind$House" "facings" "[I" ∈ LW := lw_t1 (List.mem_of_getElem? (i := 46) rfl) rfl
theorem tw_1_47 : Cond.fieldLink RX0 24 "BrickedUpAsBlind$House" "wants" "[I" ∈ LW := lw_t1 (List.mem_of_getElem? (i := 47) rfl) rfl
theorem tw_1_48 : Cond.fieldLink RX0 27 "BrickedUpAsBlind$House" "windows" "I" ∈ LW := lw_t1 (List.mem_of_getElem? (i := 48) rfl) rfl
theorem tw_1_49 : Cond.fieldLink RX2 9 "BrickedUpAsBlind$House" "windows" "I" ∈ LW := lw_t1 (List.mem_of_getElem? (i := 49) rfl) rfl
theorem tw_1_50 : Cond.fieldLink RX3 33 "BrickedUpAsBlind$House" "windows" "I" ∈ LW := lw_t1 (List.mem_of_getElem? (i := 50) rfl) rfl
theorem tw_1_51 : Cond.fieldLink RX5 35 "BrickedUpAsBlind$House" "windows" "I" ∈ LW := lw_t1 (List.mem_of_getElem? (i := 51) rfl) rfl
theorem tw_1_52 : Cond.fieldLink RX8 44 "BrickedUpAsBlind$House" "windows" "I" ∈ LW := lw_t1 (List.mem_of_getElem? (i := 52) rfl) rfl
theorem tw_1_53 : Cond.fieldLink RX9 275 "BrickedUpAsBlind$House" "windows" "I" ∈ LW := lw_t1 (List.mem_of_getElem? (i := 53) rfl) rfl
theorem tw_1_54 : Cond.fieldLink RX0 31 "BrickedUpAsBlind$House" "stopped" "I" ∈ LW := lw_t1 (List.mem_of_getElem? (i := 54) rfl) rfl
theorem tw_1_55 : Cond.fieldLink RX5 9 "BrickedUpAsBlind$House" "stopped" "I" ∈ LW := lw_t1 (List.mem_of_getElem? (i := 55) rfl) rfl
theorem tw_1_56 : Cond.fieldLink RX2 15 "BrickedUpAsBlind$House" "stopped" "I" ∈ LW := lw_t1 (List.mem_of_getElem? (i := 56) rfl) rfl
theorem tw_1_57 : Cond.fieldLink RX9 147 "BrickedUpAsBlind$House" "stopped" "I" ∈ LW := lw_t1 (List.mem_of_getElem? (i := 57) rfl) rfl
theorem tw_1_58 : Cond.fieldLink RX0 34 "BrickedUpAsBlind$House" "hour" "I" ∈ LW := lw_t1 (List.mem_of_getElem? (i := 58) rfl) rfl
theorem tw_1_59 : Cond.fieldLink RX3 17 "BrickedUpAsBlind$House" "hour" "I" ∈ LW := lw_t1 (List.mem_of_getElem? (i := 59) rfl) rfl
theorem tw_1_60 : Cond.fieldLink RX2 22 "BrickedUpAsBlind$House" "hour" "I" ∈ LW := lw_t1 (List.mem_of_getElem? (i := 60) rfl) rfl
theorem tw_1_61 : Cond.fieldLink RX8 48 "BrickedUpAsBlind$House" "hour" "I" ∈ LW := lw_t1 (List.mem_of_getElem? (i := 61) rfl) rfl
theorem tw_1_62 : Cond.fieldLink RX9 212 "BrickedUpAsBlind$House" "hour" "I" ∈ LW := lw_t1 (List.mem_of_getElem? (i := 62) rfl) rfl
theorem tw_1_63 : Cond.fieldLink RX0 37 "BrickedUpAsBlind$House" "year" "I" ∈ LW := lw_t1 (List.mem_of_getElem? (i := 63) rfl) rfl
theorem tw_1_64 : Cond.fieldLink RX9 272 "BrickedUpAsBlind$House" "year" "I" ∈ LW := lw_t1 (List.mem_of_getElem? (i := 64) rfl) rfl
theorem tw_1_65 : Cond.fieldLink RX0 40 "BrickedUpAsBlind$House" "owed" "I" ∈ LW := lw_t1 (List.mem_of_getElem? (i := 65) rfl) rfl
theorem tw_1_66 : Cond.fieldLink RX3 9 "BrickedUpAsBlind$House" "owed" "I" ∈ LW := lw_t1 (List.mem_of_getElem? (i := 66) rfl) rfl
theorem tw_1_67 : Cond.fieldLink RX9 278 "BrickedUpAsBlind$House" "owed" "I" ∈ LW := lw_t1 (List.mem_of_getElem? (i := 67) rfl) rfl
theorem tw_1_68 : Cond.fieldLink RX0 43 "BrickedUpAsBlind$House" "rate" "I" ∈ LW := lw_t1 (List.mem_of_getElem? (i := 68) rfl) rfl
theorem tw_1_69 : Cond.fieldLink RX9 281 "BrickedUpAsBlind$House" "rate" "I" ∈ LW := lw_t1 (List.mem_of_getElem? (i := 69) rfl) rfl
theorem tw_1_70 : Cond.laysFinal "BrickedUpAsBlind$House" "BrickedUpAsBlind$House" "kinds" "[I" ∈ LW := lw_t1 (List.mem_of_getElem? (i := 70) rfl) rfl
theorem tw_1_72 : Cond.laysFinal "BrickedUpAsBlind$House" "BrickedUpAsBlind$House" "figures" "[I" ∈ LW := lw_t1 (List.mem_of_getElem? (i := 72) rfl) rfl
theorem tw_1_74 : Cond.laysFinal "BrickedUpAsBlind$House" "BrickedUpAsBlind$House" "rooms" "[I" ∈ LW := lw_t1 (List.mem_of_getElem? (i := 74) rfl) rfl
theorem tw_1_76 : Cond.laysFinal "BrickedUpAsBlind$House" "BrickedUpAsBlind$House" "facings" "[I" ∈ LW := lw_t1 (List.mem_of_getElem? (i := 76) rfl) rfl
theorem tw_1_78 : Cond.laysFinal "BrickedUpAsBlind$House" "BrickedUpAsBlind$House" "wants" "[I" ∈ LW := lw_t1 (List.mem_of_getElem? (i := 78) rfl) rfl
theorem tw_1_80 : Cond.lays "BrickedUpAsBlind$House" "BrickedUpAsBlind$House" "windows" "I" ∈ LW := lw_t1 (List.mem_of_getElem? (i := 80) rfl) rfl
theorem tw_1_82 : Cond.lays "BrickedUpAsBlind$House" "BrickedUpAsBlind$House" "stopped" "I" ∈ LW := lw_t1 (List.mem_of_getElem? (i := 82) rfl) rfl
theorem tw_1_84 : Cond.lays "BrickedUpAsBlind$House" "BrickedUpAsBlind$House" "hour" "I" ∈ LW := lw_t1 (List.mem_of_getElem? (i := 84) rfl) rfl
theorem tw_1_86 : Cond.lays "BrickedUpAsBlind$House" "BrickedUpAsBlind$House" "year" "I" ∈ LW := lw_t1 (List.mem_of_getElem? (i := 86) rfl) rfl
theorem tw_1_88 : Cond.lays "BrickedUpAsBlind$House" "BrickedUpAsBlind$House" "owed" "I" ∈ LW := lw_t1 (List.mem_of_getElem? (i := 88) rfl) rfl
theorem tw_1_90 : Cond.lays "BrickedUpAsBlind$House" "BrickedUpAsBlind$House" "rate" "I" ∈ LW := lw_t1 (List.mem_of_getElem? (i := 90) rfl) rfl
theorem tw_1_94 : Cond.classLink RX9 26 RX6 ∈ LW := lw_t1 (List.mem_of_getElem? (i := 94) rfl) rfl
theorem tw_1_96 : Cond.instantiable RX6 6 ∈ LW := lw_t1 (List.mem_of_getElem? (i := 96) rfl) rfl
theorem tw_1_97 : Cond.methodLink RX9 32 yX6_init ∈ LW := lw_t1 (List.mem_of_getElem? (i := 97) rfl) rfl
theorem tw_1_98 : Cond.instanceMethod yX6_init ∈ LW := lw_t1 (List.mem_of_getElem? (i := 98) rfl) rfl
theorem tw_1_99 : Cond.code yX6_init cX6_init 1 none ∈ LW := lw_t1 (List.mem_of_getElem? (i := 99) rfl) rfl
theorem tw_1_100 : Cond.methodLink RX6 3 (⟨"java/lang/Object", "<init>", "()V"⟩ : MethodName) ∈ LW := lw_t1 (List.mem_of_getElem? (i := 100) rfl) rfl
theorem tw_1_101 : Cond.fieldLink RX6 11 "BrickedUpAsBlind$Shelf" "content" "I" ∈ LW := lw_t1 (List.mem_of_getElem? (i := 101) rfl) rfl
theorem tw_1_102 : Cond.fieldLink RX9 329 "BrickedUpAsBlind$Shelf" "content" "I" ∈ LW := lw_t1 (List.mem_of_getElem? (i := 102) rfl) rfl
theorem tw_1_103 : Cond.fieldLink RX6 15 "BrickedUpAsBlind$Shelf" "kind" "I" ∈ LW := lw_t1 (List.mem_of_getElem? (i := 103) rfl) rfl
theorem tw_1_104 : Cond.fieldLink RX9 103 "BrickedUpAsBlind$Shelf" "kind" "I" ∈ LW := lw_t1 (List.mem_of_getElem? (i := 104) rfl) rfl
theorem tw_1_105 : Cond.fieldLink RX6 18 "BrickedUpAsBlind$Shelf" "figure" "I" ∈ LW := lw_t1 (List.mem_of_getElem? (i := 105) rfl) rfl
theorem tw_1_106 : Cond.fieldLink RX9 106 "BrickedUpAsBlind$Shelf" "figure" "I" ∈ LW := lw_t1 (List.mem_of_getElem? (i := 106) rfl) rfl
theorem tw_1_107 : Cond.fieldLink RX6 21 "BrickedUpAsBlind$Shelf" "sort" "I" ∈ LW := lw_t1 (List.mem_of_getElem? (i := 107) rfl) rfl
theorem tw_1_108 : Cond.fieldLink RX9 41 "BrickedUpAsBlind$Shelf" "sort" "I" ∈ LW := lw_t1 (List.mem_of_getElem? (i := 108) rfl) rfl
theorem tw_1_109 : Cond.fieldLink RX6 24 "BrickedUpAsBlind$Shelf" "length" "I" ∈ LW := lw_t1 (List.mem_of_getElem? (i := 109) rfl) rfl
theorem tw_1_110 : Cond.fieldLink RX7 25 "BrickedUpAsBlind$Shelf" "length" "I" ∈ LW := lw_t1 (List.mem_of_getElem? (i := 110) rfl) rfl
theorem tw_1_111 : Cond.fieldLink RX3 53 "BrickedUpAsBlind$Shelf" "length" "I" ∈ LW := lw_t1 (List.mem_of_getElem? (i := 111) rfl) rfl
theorem tw_1_112 : Cond.fieldLink RX2 60 "BrickedUpAsBlind$Shelf" "length" "I" ∈ LW := lw_t1 (List.mem_of_getElem? (i := 112) rfl) rfl
theorem tw_1_113 : Cond.fieldLink RX9 230 "BrickedUpAsBlind$Shelf" "length" "I" ∈ LW := lw_t1 (List.mem_of_getElem? (i := 113) rfl) rfl
theorem tw_1_114 : Cond.fieldLink RX6 27 "BrickedUpAsBlind$Shelf" "elements" "[I" ∈ LW := lw_t1 (List.mem_of_getElem? (i := 114) rfl) rfl
theorem tw_1_115 : Cond.fieldLink RX7 15 "BrickedUpAsBlind$Shelf" "elements" "[I" ∈ LW := lw_t1 (List.mem_of_getElem? (i := 115) rfl) rfl
theorem tw_1_116 : Cond.fieldLink RX3 58 "BrickedUpAsBlind$Shelf" "elements" "[I" ∈ LW := lw_t1 (List.mem_of_getElem? (i := 116) rfl) rfl
theorem tw_1_117 : Cond.fieldLink RX2 65 "BrickedUpAsBlind$Shelf" "elements" "[I" ∈ LW := lw_t1 (List.mem_of_getElem? (i := 117) rfl) rfl
theorem tw_1_118 : Cond.fieldLink RX9 326 "BrickedUpAsBlind$Shelf" "elements" "[I" ∈ LW := lw_t1 (List.mem_of_getElem? (i := 118) rfl) rfl
theorem tw_1_119 : Cond.lays "BrickedUpAsBlind$Shelf" "BrickedUpAsBlind$Shelf" "content" "I" ∈ LW := lw_t1 (List.mem_of_getElem? (i := 119) rfl) rfl
theorem tw_1_121 : Cond.lays "BrickedUpAsBlind$Shelf" "BrickedUpAsBlind$Shelf" "kind" "I" ∈ LW := lw_t1 (List.mem_of_getElem? (i := 121) rfl) rfl
theorem tw_1_123 : Cond.lays "BrickedUpAsBlind$Shelf" "BrickedUpAsBlind$Shelf" "figure" "I" ∈ LW := lw_t1 (List.mem_of_getElem? (i := 123) rfl) rfl
theorem tw_1_125 : Cond.lays "BrickedUpAsBlind$Shelf" "BrickedUpAsBlind$Shelf" "sort" "I" ∈ LW := lw_t1 (List.mem_of_getElem? (i := 125) rfl) rfl
theorem tw_1_127 : Cond.lays "BrickedUpAsBlind$Shelf" "BrickedUpAsBlind$Shelf" "length" "I" ∈ LW := lw_t1 (List.mem_of_getElem? (i := 127) rfl) rfl
theorem tw_1_129 : Cond.laysFinal "BrickedUpAsBlind$Shelf" "BrickedUpAsBlind$Shelf" "elements" "[I" ∈ LW := lw_t1 (List.mem_of_getElem? (i := 129) rfl) rfl
theorem tw_1_132 : Cond.fieldLink RX9 10 "BrickedUpAsBlind" "now" "LBrickedUpAsBlind$House;" ∈ LW := lw_t1 (List.mem_of_getElem? (i := 132) rfl) rfl
theorem tw_1_133 : Cond.fieldLink RX9 16 "BrickedUpAsBlind" "imaged" "LBrickedUpAsBlind$House;" ∈ LW := lw_t1 (List.mem_of_getElem? (i := 133) rfl) rfl
theorem tw_1_134 : Cond.fieldLink RX9 19 "BrickedUpAsBlind" "draft" "LBrickedUpAsBlind$House;" ∈ LW := lw_t1 (List.mem_of_getElem? (i := 134) rfl) rfl
theorem tw_1_135 : Cond.fieldLink RX9 28 "BrickedUpAsBlind" "shelves" "[LBrickedUpAsBlind$Shelf;" ∈ LW := lw_t1 (List.mem_of_getElem? (i := 135) rfl) rfl
theorem tw_1_136 : Cond.fieldLink RX9 22 "BrickedUpAsBlind" "hasImage" "Z" ∈ LW := lw_t1 (List.mem_of_getElem? (i := 136) rfl) rfl
theorem tw_1_137 : Cond.laysFinal "BrickedUpAsBlind" "BrickedUpAsBlind" "now" "LBrickedUpAsBlind$House;" ∈ LW := lw_t1 (List.mem_of_getElem? (i := 137) rfl) rfl
theorem tw_1_139 : Cond.laysFinal "BrickedUpAsBlind" "BrickedUpAsBlind" "imaged" "LBrickedUpAsBlind$House;" ∈ LW := lw_t1 (List.mem_of_getElem? (i := 139) rfl) rfl
theorem tw_1_141 : Cond.laysFinal "BrickedUpAsBlind" "BrickedUpAsBlind" "draft" "LBrickedUpAsBlind$House;" ∈ LW := lw_t1 (List.mem_of_getElem? (i := 141) rfl) rfl
theorem tw_1_143 : Cond.laysFinal "BrickedUpAsBlind" "BrickedUpAsBlind" "shelves" "[LBrickedUpAsBlind$Shelf;" ∈ LW := lw_t1 (List.mem_of_getElem? (i := 143) rfl) rfl
theorem tw_1_145 : Cond.lays "BrickedUpAsBlind" "BrickedUpAsBlind" "hasImage" "Z" ∈ LW := lw_t1 (List.mem_of_getElem? (i := 145) rfl) rfl
theorem tw_1_148 : Cond.methodLink RL 21 yX9_house ∈ LW := lw_t1 (List.mem_of_getElem? (i := 148) rfl) rfl
theorem tw_1_149 : Cond.instanceMethod yX9_house ∈ LW := lw_t1 (List.mem_of_getElem? (i := 149) rfl) rfl
theorem tw_1_150 : Cond.selects RX9 yX9_house yX9_house ∈ LW := lw_t1 (List.mem_of_getElem? (i := 150) rfl) rfl
theorem tw_1_151 : Cond.code yX9_house cX9_house 6 (some .int) ∈ LW := lw_t1 (List.mem_of_getElem? (i := 151) rfl) rfl
theorem tw_1_152 : Cond.methodLink RX9 33 yX9_isShelf ∈ LW := lw_t1 (List.mem_of_getElem? (i := 152) rfl) rfl
theorem tw_1_153 : Cond.static yX9_isShelf ∈ LW := lw_t1 (List.mem_of_getElem? (i := 153) rfl) rfl
theorem tw_1_154 : Cond.code yX9_isShelf cX9_isShelf 1 (some .boolean) ∈ LW := lw_t1 (List.mem_of_getElem? (i := 154) rfl) rfl
theorem tw_1_155 : Cond.methodLink RX9 37 yX6_refusalAsRow ∈ LW := lw_t1 (List.mem_of_getElem? (i := 155) rfl) rfl
theorem tw_1_156 : Cond.instanceMethod yX6_refusalAsRow ∈ LW := lw_t1 (List.mem_of_getElem? (i := 156) rfl) rfl
theorem tw_1_157 : Cond.selects RX6 yX6_refusalAsRow yX6_refusalAsRow ∈ LW := lw_t1 (List.mem_of_getElem? (i := 157) rfl) rfl
theorem tw_1_158 : Cond.code yX6_refusalAsRow cX6_refusalAsRow 1 (some .int) ∈ LW := lw_t1 (List.mem_of_getElem? (i := 158) rfl) rfl
theorem tw_1_159 : Cond.methodLink RX9 45 yX7_faultyByte ∈ LW := lw_t1 (List.mem_of_getElem? (i := 159) rfl) rfl
theorem tw_1_160 : Cond.static yX7_faultyByte ∈ LW := lw_t1 (List.mem_of_getElem? (i := 160) rfl) rfl
theorem tw_1_161 : Cond.code yX7_faultyByte cX7_faultyByte 3 (some .int) ∈ LW := lw_t1 (List.mem_of_getElem? (i := 161) rfl) rfl
theorem tw_1_162 : Cond.methodLink RX7 9 yX7_faultyByteOfStatement ∈ LW := lw_t1 (List.mem_of_getElem? (i := 162) rfl) rfl
theorem tw_1_163 : Cond.static yX7_faultyByteOfStatement ∈ LW := lw_t1 (List.mem_of_getElem? (i := 163) rfl) rfl
theorem tw_1_164 : Cond.code yX7_faultyByteOfStatement cX7_faultyByteOfStatement 4 (some .int) ∈ LW := lw_t1 (List.mem_of_getElem? (i := 164) rfl) rfl
theorem tw_1_165 : Cond.methodLink RX7 29 yX6_isPlace ∈ LW := lw_t1 (List.mem_of_getElem? (i := 165) rfl) rfl
theorem tw_1_166 : Cond.instanceMethod yX6_isPlace ∈ LW := lw_t1 (List.mem_of_getElem? (i := 166) rfl) rfl
theorem tw_1_167 : Cond.selects RX6 yX6_isPlace yX6_isPlace ∈ LW := lw_t1 (List.mem_of_getElem? (i := 167) rfl) rfl
theorem tw_1_168 : Cond.code yX6_isPlace cX6_isPlace 2 (some .boolean) ∈ LW := lw_t1 (List.mem_of_getElem? (i := 168) rfl) rfl
theorem tw_1_169 : Cond.methodLink RX7 21 yX7_digitsBehind ∈ LW := lw_t1 (List.mem_of_getElem? (i := 169) rfl) rfl
theorem tw_1_170 : Cond.static yX7_digitsBehind ∈ LW := lw_t1 (List.mem_of_getElem? (i := 170) rfl) rfl
theorem tw_1_171 : Cond.code yX7_digitsBehind cX7_digitsBehind 1 (some .int) ∈ LW := lw_t1 (List.mem_of_getElem? (i := 171) rfl) rfl
theorem tw_1_172 : Cond.methodLink RX7 33 yX7_isDigit ∈ LW := lw_t1 (List.mem_of_getElem? (i := 172) rfl) rfl
theorem tw_1_173 : Cond.static yX7_isDigit ∈ LW := lw_t1 (List.mem_of_getElem? (i := 173) rfl) rfl
theorem tw_1_174 : Cond.code yX7_isDigit cX7_isDigit 1 (some .boolean) ∈ LW := lw_t1 (List.mem_of_getElem? (i := 174) rfl) rfl
theorem tw_1_175 : Cond.methodLink RX9 51 yX0_become ∈ LW := lw_t1 (List.mem_of_getElem? (i := 175) rfl) rfl
theorem tw_1_176 : Cond.instanceMethod yX0_become ∈ LW := lw_t1 (List.mem_of_getElem? (i := 176) rfl) rfl
theorem tw_1_177 : Cond.selects RX0 yX0_become yX0_become ∈ LW := lw_t1 (List.mem_of_getElem? (i := 177) rfl) rfl
theorem tw_1_178 : Cond.code yX0_become cX0_become 2 none ∈ LW := lw_t1 (List.mem_of_getElem? (i := 178) rfl) rfl
theorem tw_1_179 : Cond.methodLink RX0 46 (⟨"java/lang/System", "arraycopy", "(Ljava/lang/Object;ILjava/lang/Object;II)V"⟩ : MethodName) ∈ LW := lw_t1 (List.mem_of_getElem? (i := 179) rfl) rfl
theorem tw_1_180 : Cond.static (⟨"java/lang/System", "arraycopy", "(Ljava/lang/Object;ILjava/lang/Object;II)V"⟩ : MethodName) ∈ LW := lw_t1 (List.mem_of_getElem? (i := 180) rfl) rfl
theorem tw_1_181 : Cond.native (⟨"java/lang/System", "arraycopy", "(Ljava/lang/Object;ILjava/lang/Object;II)V"⟩ : MethodName) ∈ LW := lw_t1 (List.mem_of_getElem? (i := 181) rfl) rfl
theorem tw_1_182 : Cond.methodLink RX9 55 yX7_carryOut ∈ LW := lw_t1 (List.mem_of_getElem? (i := 182) rfl) rfl
theorem tw_1_183 : Cond.static yX7_carryOut ∈ LW := lw_t1 (List.mem_of_getElem? (i := 183) rfl) rfl
theorem tw_1_184 : Cond.code yX7_carryOut cX7_carryOut 4 (some .int) ∈ LW := lw_t1 (List.mem_of_getElem? (i := 184) rfl) rfl
theorem tw_1_185 : Cond.methodLink RX7 36 yX7_answerTo ∈ LW := lw_t1 (List.mem_of_getElem? (i := 185) rfl) rfl
theorem tw_1_186 : Cond.static yX7_answerTo ∈ LW := lw_t1 (List.mem_of_getElem? (i := 186) rfl) rfl
theorem tw_1_187 : Cond.code yX7_answerTo cX7_answerTo 3 (some .int) ∈ LW := lw_t1 (List.mem_of_getElem? (i := 187) rfl) rfl
theorem tw_1_188 : Cond.methodLink RX7 40 yX7_numberAt ∈ LW := lw_t1 (List.mem_of_getElem? (i := 188) rfl) rfl
theorem tw_1_189 : Cond.static yX7_numberAt ∈ LW := lw_t1 (List.mem_of_getElem? (i := 189) rfl) rfl
theorem tw_1_190 : Cond.code yX7_numberAt cX7_numberAt 5 (some .int) ∈ LW := lw_t1 (List.mem_of_getElem? (i := 190) rfl) rfl
theorem tw_1_191 : Cond.methodLink RX7 44 yX0_addWindow ∈ LW := lw_t1 (List.mem_of_getElem? (i := 191) rfl) rfl
theorem tw_1_192 : Cond.instanceMethod yX0_addWindow ∈ LW := lw_t1 (List.mem_of_getElem? (i := 192) rfl) rfl
theorem tw_1_193 : Cond.selects RX0 yX0_addWindow yX0_addWindow ∈ LW := lw_t1 (List.mem_of_getElem? (i := 193) rfl) rfl
theorem tw_1_194 : Cond.code yX0_addWindow cX0_addWindow 5 (some .int) ∈ LW := lw_t1 (List.mem_of_getElem? (i := 194) rfl) rfl
theorem tw_1_195 : Cond.methodLink RX0 56 yX1_isKind ∈ LW := lw_t1 (List.mem_of_getElem? (i := 195) rfl) rfl
theorem tw_1_196 : Cond.static yX1_isKind ∈ LW := lw_t1 (List.mem_of_getElem? (i := 196) rfl) rfl
theorem tw_1_197 : Cond.code yX1_isKind cX1_isKind 1 (some .boolean) ∈ LW := lw_t1 (List.mem_of_getElem? (i := 197) rfl) rfl
theorem tw_1_198 : Cond.methodLink RX0 62 yX1_isFigure ∈ LW := lw_t1 (List.mem_of_getElem? (i := 198) rfl) rfl
theorem tw_1_199 : Cond.static yX1_isFigure ∈ LW := lw_t1 (List.mem_of_getElem? (i := 199) rfl) rfl
theorem tw_1_200 : Cond.code yX1_isFigure cX1_isFigure 1 (some .boolean) ∈ LW := lw_t1 (List.mem_of_getElem? (i := 200) rfl) rfl
theorem tw_1_201 : Cond.methodLink RX0 65 yX0_isRoom ∈ LW := lw_t1 (List.mem_of_getElem? (i := 201) rfl) rfl
theorem tw_1_202 : Cond.static yX0_isRoom ∈ LW := lw_t1 (List.mem_of_getElem? (i := 202) rfl) rfl
theorem tw_1_203 : Cond.code yX0_isRoom cX0_isRoom 1 (some .boolean) ∈ LW := lw_t1 (List.mem_of_getElem? (i := 203) rfl) rfl
theorem tw_1_204 : Cond.methodLink RX0 52 yX0_isWithin ∈ LW := lw_t1 (List.mem_of_getElem? (i := 204) rfl) rfl
theorem tw_1_205 : Cond.static yX0_isWithin ∈ LW := lw_t1 (List.mem_of_getElem? (i := 205) rfl) rfl
theorem tw_1_206 : Cond.code yX0_isWithin cX0_isWithin 3 (some .boolean) ∈ LW := lw_t1 (List.mem_of_getElem? (i := 206) rfl) rfl
theorem tw_1_207 : Cond.methodLink RX0 68 yX0_isHour ∈ LW := lw_t1 (List.mem_of_getElem? (i := 207) rfl) rfl
theorem tw_1_208 : Cond.static yX0_isHour ∈ LW := lw_t1 (List.mem_of_getElem? (i := 208) rfl) rfl
theorem tw_1_209 : Cond.code yX0_isHour cX0_isHour 1 (some .boolean) ∈ LW := lw_t1 (List.mem_of_getElem? (i := 209) rfl) rfl
theorem tw_1_210 : Cond.methodLink RX7 50 yX0_changeNeed ∈ LW := lw_t1 (List.mem_of_getElem? (i := 210) rfl) rfl
theorem tw_1_211 : Cond.instanceMethod yX0_changeNeed ∈ LW := lw_t1 (List.mem_of_getElem? (i := 211) rfl) rfl
theorem tw_1_212 : Cond.selects RX0 yX0_changeNeed yX0_changeNeed ∈ LW := lw_t1 (List.mem_of_getElem? (i := 212) rfl) rfl
theorem tw_1_213 : Cond.code yX0_changeNeed cX0_changeNeed 4 (some .int) ∈ LW := lw_t1 (List.mem_of_getElem? (i := 213) rfl) rfl
theorem tw_1_214 : Cond.methodLink RX7 54 yX0_turnStopped ∈ LW := lw_t1 (List.mem_of_getElem? (i := 214) rfl) rfl
theorem tw_1_215 : Cond.instanceMethod yX0_turnStopped ∈ LW := lw_t1 (List.mem_of_getElem? (i := 215) rfl) rfl
theorem tw_1_216 : Cond.selects RX0 yX0_turnStopped yX0_turnStopped ∈ LW := lw_t1 (List.mem_of_getElem? (i := 216) rfl) rfl
theorem tw_1_217 : Cond.code yX0_turnStopped cX0_turnStopped 2 (some .int) ∈ LW := lw_t1 (List.mem_of_getElem? (i := 217) rfl) rfl
theorem tw_1_218 : Cond.methodLink RX0 71 yX0_isWindow ∈ LW := lw_t1 (List.mem_of_getElem? (i := 218) rfl) rfl
theorem tw_1_219 : Cond.instanceMethod yX0_isWindow ∈ LW := lw_t1 (List.mem_of_getElem? (i := 219) rfl) rfl
theorem tw_1_220 : Cond.selects RX0 yX0_isWindow yX0_isWindow ∈ LW := lw_t1 (List.mem_of_getElem? (i := 220) rfl) rfl
theorem tw_1_221 : Cond.code yX0_isWindow cX0_isWindow 2 (some .boolean) ∈ LW := lw_t1 (List.mem_of_getElem? (i := 221) rfl) rfl
theorem tw_1_222 : Cond.methodLink RX0 74 yX0_isStopped ∈ LW := lw_t1 (List.mem_of_getElem? (i := 222) rfl) rfl
theorem tw_1_223 : Cond.instanceMethod yX0_isStopped ∈ LW := lw_t1 (List.mem_of_getElem? (i := 223) rfl) rfl
theorem tw_1_224 : Cond.selects RX0 yX0_isStopped yX0_isStopped ∈ LW := lw_t1 (List.mem_of_getElem? (i := 224) rfl) rfl
theorem tw_1_225 : Cond.code yX0_isStopped cX0_isStopped 2 (some .boolean) ∈ LW := lw_t1 (List.mem_of_getElem? (i := 225) rfl) rfl
theorem tw_1_226 : Cond.methodLink RX7 57 yX0_changeHour ∈ LW := lw_t1 (List.mem_of_getElem? (i := 226) rfl) rfl
theorem tw_1_227 : Cond.instanceMethod yX0_changeHour ∈ LW := lw_t1 (List.mem_of_getElem? (i := 227) rfl) rfl
theorem tw_1_228 : Cond.selects RX0 yX0_changeHour yX0_changeHour ∈ LW := lw_t1 (List.mem_of_getElem? (i := 228) rfl) rfl
theorem tw_1_229 : Cond.code yX0_changeHour cX0_changeHour 3 (some .int) ∈ LW := lw_t1 (List.mem_of_getElem? (i := 229) rfl) rfl
theorem tw_1_230 : Cond.methodLink RX7 60 yX0_changeRate ∈ LW := lw_t1 (List.mem_of_getElem? (i := 230) rfl) rfl
theorem tw_1_231 : Cond.instanceMethod yX0_changeRate ∈ LW := lw_t1 (List.mem_of_getElem? (i := 231) rfl) rfl
theorem tw_1_232 : Cond.selects RX0 yX0_changeRate yX0_changeRate ∈ LW := lw_t1 (List.mem_of_getElem? (i := 232) rfl) rfl
theorem tw_1_233 : Cond.code yX0_changeRate cX0_changeRate 3 (some .int) ∈ LW := lw_t1 (List.mem_of_getElem? (i := 233) rfl) rfl
theorem tw_1_234 : Cond.methodLink RX7 63 yX0_passYears ∈ LW := lw_t1 (List.mem_of_getElem? (i := 234) rfl) rfl
theorem tw_1_235 : Cond.instanceMethod yX0_passYears ∈ LW := lw_t1 (List.mem_of_getElem? (i := 235) rfl) rfl
theorem tw_1_236 : Cond.selects RX0 yX0_passYears yX0_passYears ∈ LW := lw_t1 (List.mem_of_getElem? (i := 236) rfl) rfl
theorem tw_1_237 : Cond.code yX0_passYears cX0_passYears 3 (some .int) ∈ LW := lw_t1 (List.mem_of_getElem? (i := 237) rfl) rfl
theorem tw_1_238 : Cond.methodLink RX0 77 yX0_owedBehindYear ∈ LW := lw_t1 (List.mem_of_getElem? (i := 238) rfl) rfl
theorem tw_1_239 : Cond.instanceMethod yX0_owedBehindYear ∈ LW := lw_t1 (List.mem_of_getElem? (i := 239) rfl) rfl
theorem tw_2_0 : Cond.selects RX0 yX0_owedBehindYear yX0_owedBehindYear ∈ LW := lw_t2 (List.mem_of_getElem? (i := 0) rfl) rfl
theorem tw_2_1 : Cond.code yX0_owedBehindYear cX0_owedBehindYear 5 (some .int) ∈ LW := lw_t2 (List.mem_of_getElem? (i := 1) rfl) rfl
theorem tw_2_2 : Cond.methodLink RX0 123 yX0_openDues ∈ LW := lw_t2 (List.mem_of_getElem? (i := 2) rfl) rfl
theorem tw_2_3 : Cond.instanceMethod yX0_openDues ∈ LW := lw_t2 (List.mem_of_getElem? (i := 3) rfl) rfl
theorem tw_2_4 : Cond.selects RX0 yX0_openDues yX0_openDues ∈ LW := lw_t2 (List.mem_of_getElem? (i := 4) rfl) rfl
theorem tw_2_5 : Cond.code yX0_openDues cX0_openDues 3 (some .int) ∈ LW := lw_t2 (List.mem_of_getElem? (i := 5) rfl) rfl
theorem tw_2_6 : Cond.methodLink RX0 116 yX1_due ∈ LW := lw_t2 (List.mem_of_getElem? (i := 6) rfl) rfl
theorem tw_2_7 : Cond.static yX1_due ∈ LW := lw_t2 (List.mem_of_getElem? (i := 7) rfl) rfl
theorem tw_2_8 : Cond.code yX1_due cX1_due 4 (some .int) ∈ LW := lw_t2 (List.mem_of_getElem? (i := 8) rfl) rfl
theorem tw_2_9 : Cond.methodLink RX0 119 yX0_isMoving ∈ LW := lw_t2 (List.mem_of_getElem? (i := 9) rfl) rfl
theorem tw_2_10 : Cond.instanceMethod yX0_isMoving ∈ LW := lw_t2 (List.mem_of_getElem? (i := 10) rfl) rfl
theorem tw_2_11 : Cond.selects RX0 yX0_isMoving yX0_isMoving ∈ LW := lw_t2 (List.mem_of_getElem? (i := 11) rfl) rfl
theorem tw_2_12 : Cond.code yX0_isMoving cX0_isMoving 3 (some .boolean) ∈ LW := lw_t2 (List.mem_of_getElem? (i := 12) rfl) rfl
theorem tw_2_13 : Cond.methodLink RX0 84 yX1_apart ∈ LW := lw_t2 (List.mem_of_getElem? (i := 13) rfl) rfl
theorem tw_2_14 : Cond.static yX1_apart ∈ LW := lw_t2 (List.mem_of_getElem? (i := 14) rfl) rfl
theorem tw_2_15 : Cond.code yX1_apart cX1_apart 3 (some .int) ∈ LW := lw_t2 (List.mem_of_getElem? (i := 15) rfl) rfl
theorem tw_2_16 : Cond.methodLink RX0 91 yX1_moves ∈ LW := lw_t2 (List.mem_of_getElem? (i := 16) rfl) rfl
theorem tw_2_17 : Cond.static yX1_moves ∈ LW := lw_t2 (List.mem_of_getElem? (i := 17) rfl) rfl
theorem tw_2_18 : Cond.code yX1_moves cX1_moves 4 (some .boolean) ∈ LW := lw_t2 (List.mem_of_getElem? (i := 18) rfl) rfl
theorem tw_2_20 : Cond.methodLink RX0 128 yJ9_min_7cf53 ∈ LW := lw_t2 (List.mem_of_getElem? (i := 20) rfl) rfl
theorem tw_2_21 : Cond.static yJ9_min_7cf53 ∈ LW := lw_t2 (List.mem_of_getElem? (i := 21) rfl) rfl
theorem tw_2_22 : Cond.code yJ9_min_7cf53 cJ9_min_7cf53 2 (some .int) ∈ LW := lw_t2 (List.mem_of_getElem? (i := 22) rfl) rfl
theorem tw_2_23 : Cond.methodLink RX7 66 yX0_payOff ∈ LW := lw_t2 (List.mem_of_getElem? (i := 23) rfl) rfl
theorem tw_2_24 : Cond.instanceMethod yX0_payOff ∈ LW := lw_t2 (List.mem_of_getElem? (i := 24) rfl) rfl
theorem tw_2_25 : Cond.selects RX0 yX0_payOff yX0_payOff ∈ LW := lw_t2 (List.mem_of_getElem? (i := 25) rfl) rfl
theorem tw_2_26 : Cond.code yX0_payOff cX0_payOff 2 (some .int) ∈ LW := lw_t2 (List.mem_of_getElem? (i := 26) rfl) rfl
theorem tw_2_27 : Cond.methodLink RX0 81 yX0_isPayment ∈ LW := lw_t2 (List.mem_of_getElem? (i := 27) rfl) rfl
theorem tw_2_28 : Cond.static yX0_isPayment ∈ LW := lw_t2 (List.mem_of_getElem? (i := 28) rfl) rfl
theorem tw_2_29 : Cond.code yX0_isPayment cX0_isPayment 1 (some .boolean) ∈ LW := lw_t2 (List.mem_of_getElem? (i := 29) rfl) rfl
theorem tw_2_30 : Cond.methodLink RL 26 yX9_window ∈ LW := lw_t2 (List.mem_of_getElem? (i := 30) rfl) rfl
theorem tw_2_31 : Cond.instanceMethod yX9_window ∈ LW := lw_t2 (List.mem_of_getElem? (i := 31) rfl) rfl
theorem tw_2_32 : Cond.selects RX9 yX9_window yX9_window ∈ LW := lw_t2 (List.mem_of_getElem? (i := 32) rfl) rfl
theorem tw_2_33 : Cond.code yX9_window cX9_window 3 (some .int) ∈ LW := lw_t2 (List.mem_of_getElem? (i := 33) rfl) rfl
theorem tw_2_34 : Cond.methodLink RX9 59 yX0_isWindow ∈ LW := lw_t2 (List.mem_of_getElem? (i := 34) rfl) rfl
theorem tw_2_35 : Cond.methodLink RX9 75 yX0_isStopped ∈ LW := lw_t2 (List.mem_of_getElem? (i := 35) rfl) rfl
theorem tw_2_36 : Cond.methodLink RX9 78 yX1_due ∈ LW := lw_t2 (List.mem_of_getElem? (i := 36) rfl) rfl
theorem tw_2_37 : Cond.methodLink RL 31 yX9_at ∈ LW := lw_t2 (List.mem_of_getElem? (i := 37) rfl) rfl
theorem tw_2_38 : Cond.instanceMethod yX9_at ∈ LW := lw_t2 (List.mem_of_getElem? (i := 38) rfl) rfl
theorem tw_2_39 : Cond.selects RX9 yX9_at yX9_at ∈ LW := lw_t2 (List.mem_of_getElem? (i := 39) rfl) rfl
theorem tw_2_40 : Cond.code yX9_at cX9_at 4 (some .int) ∈ LW := lw_t2 (List.mem_of_getElem? (i := 40) rfl) rfl
theorem tw_2_41 : Cond.methodLink RX9 84 yX0_isHour ∈ LW := lw_t2 (List.mem_of_getElem? (i := 41) rfl) rfl
theorem tw_2_42 : Cond.methodLink RX9 87 yX0_shineOf ∈ LW := lw_t2 (List.mem_of_getElem? (i := 42) rfl) rfl
theorem tw_2_43 : Cond.instanceMethod yX0_shineOf ∈ LW := lw_t2 (List.mem_of_getElem? (i := 43) rfl) rfl
theorem tw_2_44 : Cond.selects RX0 yX0_shineOf yX0_shineOf ∈ LW := lw_t2 (List.mem_of_getElem? (i := 44) rfl) rfl
theorem tw_2_45 : Cond.code yX0_shineOf cX0_shineOf 3 (some .int) ∈ LW := lw_t2 (List.mem_of_getElem? (i := 45) rfl) rfl
theorem tw_2_46 : Cond.methodLink RX0 87 yX1_shine ∈ LW := lw_t2 (List.mem_of_getElem? (i := 46) rfl) rfl
theorem tw_2_47 : Cond.static yX1_shine ∈ LW := lw_t2 (List.mem_of_getElem? (i := 47) rfl) rfl
theorem tw_2_48 : Cond.code yX1_shine cX1_shine 4 (some .int) ∈ LW := lw_t2 (List.mem_of_getElem? (i := 48) rfl) rfl
theorem tw_2_49 : Cond.methodLink RX9 90 yX0_isMoving ∈ LW := lw_t2 (List.mem_of_getElem? (i := 49) rfl) rfl
theorem tw_2_50 : Cond.methodLink RX9 94 yX0_seemingOf ∈ LW := lw_t2 (List.mem_of_getElem? (i := 50) rfl) rfl
theorem tw_2_51 : Cond.instanceMethod yX0_seemingOf ∈ LW := lw_t2 (List.mem_of_getElem? (i := 51) rfl) rfl
theorem tw_2_52 : Cond.selects RX0 yX0_seemingOf yX0_seemingOf ∈ LW := lw_t2 (List.mem_of_getElem? (i := 52) rfl) rfl
theorem tw_2_53 : Cond.code yX0_seemingOf cX0_seemingOf 3 (some .int) ∈ LW := lw_t2 (List.mem_of_getElem? (i := 53) rfl) rfl
theorem tw_2_54 : Cond.methodLink RX0 95 yX0_unstoppedSeeming ∈ LW := lw_t2 (List.mem_of_getElem? (i := 54) rfl) rfl
theorem tw_2_55 : Cond.instanceMethod yX0_unstoppedSeeming ∈ LW := lw_t2 (List.mem_of_getElem? (i := 55) rfl) rfl
theorem tw_2_56 : Cond.selects RX0 yX0_unstoppedSeeming yX0_unstoppedSeeming ∈ LW := lw_t2 (List.mem_of_getElem? (i := 56) rfl) rfl
theorem tw_2_57 : Cond.code yX0_unstoppedSeeming cX0_unstoppedSeeming 3 (some .int) ∈ LW := lw_t2 (List.mem_of_getElem? (i := 57) rfl) rfl
theorem tw_2_58 : Cond.methodLink RX0 98 yX1_seeming ∈ LW := lw_t2 (List.mem_of_getElem? (i := 58) rfl) rfl
theorem tw_2_59 : Cond.static yX1_seeming ∈ LW := lw_t2 (List.mem_of_getElem? (i := 59) rfl) rfl
theorem tw_2_60 : Cond.code yX1_seeming cX1_seeming 5 (some .int) ∈ LW := lw_t2 (List.mem_of_getElem? (i := 60) rfl) rfl
theorem tw_2_61 : Cond.methodLink RX1 13 yJ9_max_7cf53 ∈ LW := lw_t2 (List.mem_of_getElem? (i := 61) rfl) rfl
theorem tw_2_62 : Cond.static yJ9_max_7cf53 ∈ LW := lw_t2 (List.mem_of_getElem? (i := 62) rfl) rfl
theorem tw_2_63 : Cond.code yJ9_max_7cf53 cJ9_max_7cf53 2 (some .int) ∈ LW := lw_t2 (List.mem_of_getElem? (i := 63) rfl) rfl
theorem tw_2_64 : Cond.methodLink RX1 19 yX1_moves ∈ LW := lw_t2 (List.mem_of_getElem? (i := 64) rfl) rfl
theorem tw_2_65 : Cond.methodLink RL 36 yX9_builds ∈ LW := lw_t2 (List.mem_of_getElem? (i := 65) rfl) rfl
theorem tw_2_66 : Cond.instanceMethod yX9_builds ∈ LW := lw_t2 (List.mem_of_getElem? (i := 66) rfl) rfl
theorem tw_2_67 : Cond.selects RX9 yX9_builds yX9_builds ∈ LW := lw_t2 (List.mem_of_getElem? (i := 67) rfl) rfl
theorem tw_2_68 : Cond.code yX9_builds cX9_builds 6 (some .int) ∈ LW := lw_t2 (List.mem_of_getElem? (i := 68) rfl) rfl
theorem tw_2_69 : Cond.methodLink RX9 97 yX0_isRoom ∈ LW := lw_t2 (List.mem_of_getElem? (i := 69) rfl) rfl
theorem tw_2_70 : Cond.methodLink RX9 100 yX6_refusalAsKind ∈ LW := lw_t2 (List.mem_of_getElem? (i := 70) rfl) rfl
theorem tw_2_71 : Cond.instanceMethod yX6_refusalAsKind ∈ LW := lw_t2 (List.mem_of_getElem? (i := 71) rfl) rfl
theorem tw_2_72 : Cond.selects RX6 yX6_refusalAsKind yX6_refusalAsKind ∈ LW := lw_t2 (List.mem_of_getElem? (i := 72) rfl) rfl
theorem tw_2_73 : Cond.code yX6_refusalAsKind cX6_refusalAsKind 1 (some .int) ∈ LW := lw_t2 (List.mem_of_getElem? (i := 73) rfl) rfl
theorem tw_2_74 : Cond.methodLink RX9 109 yX0_addWindow ∈ LW := lw_t2 (List.mem_of_getElem? (i := 74) rfl) rfl
theorem tw_2_75 : Cond.methodLink RL 40 yX9_stops ∈ LW := lw_t2 (List.mem_of_getElem? (i := 75) rfl) rfl
theorem tw_2_76 : Cond.instanceMethod yX9_stops ∈ LW := lw_t2 (List.mem_of_getElem? (i := 76) rfl) rfl
theorem tw_2_77 : Cond.selects RX9 yX9_stops yX9_stops ∈ LW := lw_t2 (List.mem_of_getElem? (i := 77) rfl) rfl
theorem tw_2_78 : Cond.code yX9_stops cX9_stops 2 (some .int) ∈ LW := lw_t2 (List.mem_of_getElem? (i := 78) rfl) rfl
theorem tw_2_79 : Cond.methodLink RX9 113 yX0_turnStopped ∈ LW := lw_t2 (List.mem_of_getElem? (i := 79) rfl) rfl
theorem tw_2_80 : Cond.methodLink RL 44 yX9_needs ∈ LW := lw_t2 (List.mem_of_getElem? (i := 80) rfl) rfl
theorem tw_2_81 : Cond.instanceMethod yX9_needs ∈ LW := lw_t2 (List.mem_of_getElem? (i := 81) rfl) rfl
theorem tw_2_82 : Cond.selects RX9 yX9_needs yX9_needs ∈ LW := lw_t2 (List.mem_of_getElem? (i := 82) rfl) rfl
theorem tw_2_83 : Cond.code yX9_needs cX9_needs 3 (some .int) ∈ LW := lw_t2 (List.mem_of_getElem? (i := 83) rfl) rfl
theorem tw_2_84 : Cond.methodLink RX9 117 yX0_changeNeed ∈ LW := lw_t2 (List.mem_of_getElem? (i := 84) rfl) rfl
theorem tw_2_85 : Cond.methodLink RL 48 yX9_set ∈ LW := lw_t2 (List.mem_of_getElem? (i := 85) rfl) rfl
theorem tw_2_86 : Cond.instanceMethod yX9_set ∈ LW := lw_t2 (List.mem_of_getElem? (i := 86) rfl) rfl
theorem tw_2_87 : Cond.selects RX9 yX9_set yX9_set ∈ LW := lw_t2 (List.mem_of_getElem? (i := 87) rfl) rfl
theorem tw_2_88 : Cond.code yX9_set cX9_set 3 (some .int) ∈ LW := lw_t2 (List.mem_of_getElem? (i := 88) rfl) rfl
theorem tw_2_89 : Cond.methodLink RX9 120 yX0_changeHour ∈ LW := lw_t2 (List.mem_of_getElem? (i := 89) rfl) rfl
theorem tw_2_90 : Cond.methodLink RX9 123 yX0_changeRate ∈ LW := lw_t2 (List.mem_of_getElem? (i := 90) rfl) rfl
theorem tw_2_91 : Cond.methodLink RL 52 yX9_years ∈ LW := lw_t2 (List.mem_of_getElem? (i := 91) rfl) rfl
theorem tw_2_92 : Cond.instanceMethod yX9_years ∈ LW := lw_t2 (List.mem_of_getElem? (i := 92) rfl) rfl
theorem tw_2_93 : Cond.selects RX9 yX9_years yX9_years ∈ LW := lw_t2 (List.mem_of_getElem? (i := 93) rfl) rfl
theorem tw_2_94 : Cond.code yX9_years cX9_years 2 (some .int) ∈ LW := lw_t2 (List.mem_of_getElem? (i := 94) rfl) rfl
theorem tw_2_95 : Cond.methodLink RX9 126 yX0_passYears ∈ LW := lw_t2 (List.mem_of_getElem? (i := 95) rfl) rfl
theorem tw_2_96 : Cond.methodLink RL 56 yX9_pays ∈ LW := lw_t2 (List.mem_of_getElem? (i := 96) rfl) rfl
theorem tw_2_97 : Cond.instanceMethod yX9_pays ∈ LW := lw_t2 (List.mem_of_getElem? (i := 97) rfl) rfl
theorem tw_2_98 : Cond.selects RX9 yX9_pays yX9_pays ∈ LW := lw_t2 (List.mem_of_getElem? (i := 98) rfl) rfl
theorem tw_2_99 : Cond.code yX9_pays cX9_pays 2 (some .int) ∈ LW := lw_t2 (List.mem_of_getElem? (i := 99) rfl) rfl
theorem tw_2_100 : Cond.methodLink RX9 129 yX0_payOff ∈ LW := lw_t2 (List.mem_of_getElem? (i := 100) rfl) rfl
theorem tw_2_101 : Cond.methodLink RL 60 yX9_light ∈ LW := lw_t2 (List.mem_of_getElem? (i := 101) rfl) rfl
theorem tw_2_102 : Cond.instanceMethod yX9_light ∈ LW := lw_t2 (List.mem_of_getElem? (i := 102) rfl) rfl
theorem tw_2_103 : Cond.selects RX9 yX9_light yX9_light ∈ LW := lw_t2 (List.mem_of_getElem? (i := 103) rfl) rfl
theorem tw_2_104 : Cond.code yX9_light cX9_light 3 (some .int) ∈ LW := lw_t2 (List.mem_of_getElem? (i := 104) rfl) rfl
theorem tw_2_105 : Cond.methodLink RX9 132 yX0_roomLight ∈ LW := lw_t2 (List.mem_of_getElem? (i := 105) rfl) rfl
theorem tw_2_106 : Cond.instanceMethod yX0_roomLight ∈ LW := lw_t2 (List.mem_of_getElem? (i := 106) rfl) rfl
theorem tw_2_107 : Cond.selects RX0 yX0_roomLight yX0_roomLight ∈ LW := lw_t2 (List.mem_of_getElem? (i := 107) rfl) rfl
theorem tw_2_108 : Cond.code yX0_roomLight cX0_roomLight 5 (some .int) ∈ LW := lw_t2 (List.mem_of_getElem? (i := 108) rfl) rfl
theorem tw_2_109 : Cond.methodLink RX0 102 yX0_shineOf ∈ LW := lw_t2 (List.mem_of_getElem? (i := 109) rfl) rfl
theorem tw_2_110 : Cond.methodLink RL 64 yX9_allDue ∈ LW := lw_t2 (List.mem_of_getElem? (i := 110) rfl) rfl
theorem tw_2_111 : Cond.instanceMethod yX9_allDue ∈ LW := lw_t2 (List.mem_of_getElem? (i := 111) rfl) rfl
theorem tw_2_112 : Cond.selects RX9 yX9_allDue yX9_allDue ∈ LW := lw_t2 (List.mem_of_getElem? (i := 112) rfl) rfl
theorem tw_2_113 : Cond.code yX9_allDue cX9_allDue 1 (some .int) ∈ LW := lw_t2 (List.mem_of_getElem? (i := 113) rfl) rfl
theorem tw_2_114 : Cond.methodLink RX9 135 yX0_openDues ∈ LW := lw_t2 (List.mem_of_getElem? (i := 114) rfl) rfl
theorem tw_2_115 : Cond.methodLink RL 69 yX9_stop ∈ LW := lw_t2 (List.mem_of_getElem? (i := 115) rfl) rfl
theorem tw_2_116 : Cond.instanceMethod yX9_stop ∈ LW := lw_t2 (List.mem_of_getElem? (i := 116) rfl) rfl
theorem tw_2_117 : Cond.selects RX9 yX9_stop yX9_stop ∈ LW := lw_t2 (List.mem_of_getElem? (i := 117) rfl) rfl
theorem tw_2_118 : Cond.code yX9_stop cX9_stop 3 (some .int) ∈ LW := lw_t2 (List.mem_of_getElem? (i := 118) rfl) rfl
theorem tw_2_119 : Cond.methodLink RX9 138 yX9_isZeroOrOne ∈ LW := lw_t2 (List.mem_of_getElem? (i := 119) rfl) rfl
theorem tw_2_120 : Cond.static yX9_isZeroOrOne ∈ LW := lw_t2 (List.mem_of_getElem? (i := 120) rfl) rfl
theorem tw_2_121 : Cond.code yX9_isZeroOrOne cX9_isZeroOrOne 1 (some .boolean) ∈ LW := lw_t2 (List.mem_of_getElem? (i := 121) rfl) rfl
theorem tw_2_122 : Cond.methodLink RX9 141 yX2_cheapestStops ∈ LW := lw_t2 (List.mem_of_getElem? (i := 122) rfl) rfl
theorem tw_2_123 : Cond.static yX2_cheapestStops ∈ LW := lw_t2 (List.mem_of_getElem? (i := 123) rfl) rfl
theorem tw_2_124 : Cond.code yX2_cheapestStops cX2_cheapestStops 5 (some .int) ∈ LW := lw_t2 (List.mem_of_getElem? (i := 124) rfl) rfl
theorem tw_2_125 : Cond.methodLink RX2 18 yX0_openDues ∈ LW := lw_t2 (List.mem_of_getElem? (i := 125) rfl) rfl
theorem tw_2_126 : Cond.methodLink RX2 25 yX0_isAnyLacking ∈ LW := lw_t2 (List.mem_of_getElem? (i := 126) rfl) rfl
theorem tw_2_127 : Cond.instanceMethod yX0_isAnyLacking ∈ LW := lw_t2 (List.mem_of_getElem? (i := 127) rfl) rfl
theorem tw_2_128 : Cond.selects RX0 yX0_isAnyLacking yX0_isAnyLacking ∈ LW := lw_t2 (List.mem_of_getElem? (i := 128) rfl) rfl
theorem tw_2_129 : Cond.code yX0_isAnyLacking cX0_isAnyLacking 3 (some .boolean) ∈ LW := lw_t2 (List.mem_of_getElem? (i := 129) rfl) rfl
theorem tw_2_130 : Cond.methodLink RX0 113 yX0_lackOf ∈ LW := lw_t2 (List.mem_of_getElem? (i := 130) rfl) rfl
theorem tw_2_131 : Cond.instanceMethod yX0_lackOf ∈ LW := lw_t2 (List.mem_of_getElem? (i := 131) rfl) rfl
theorem tw_2_132 : Cond.selects RX0 yX0_lackOf yX0_lackOf ∈ LW := lw_t2 (List.mem_of_getElem? (i := 132) rfl) rfl
theorem tw_2_133 : Cond.code yX0_lackOf cX0_lackOf 3 (some .int) ∈ LW := lw_t2 (List.mem_of_getElem? (i := 133) rfl) rfl
theorem tw_2_134 : Cond.methodLink RX0 105 yX0_roomLight ∈ LW := lw_t2 (List.mem_of_getElem? (i := 134) rfl) rfl
theorem tw_2_135 : Cond.methodLink RX0 108 yJ9_max_7cf53 ∈ LW := lw_t2 (List.mem_of_getElem? (i := 135) rfl) rfl
theorem tw_2_136 : Cond.methodLink RL 73 yX9_dark ∈ LW := lw_t2 (List.mem_of_getElem? (i := 136) rfl) rfl
theorem tw_2_137 : Cond.instanceMethod yX9_dark ∈ LW := lw_t2 (List.mem_of_getElem? (i := 137) rfl) rfl
theorem tw_2_138 : Cond.selects RX9 yX9_dark yX9_dark ∈ LW := lw_t2 (List.mem_of_getElem? (i := 138) rfl) rfl
theorem tw_2_139 : Cond.code yX9_dark cX9_dark 1 (some .int) ∈ LW := lw_t2 (List.mem_of_getElem? (i := 139) rfl) rfl
theorem tw_2_140 : Cond.methodLink RX9 150 yX2_darkHours ∈ LW := lw_t2 (List.mem_of_getElem? (i := 140) rfl) rfl
theorem tw_2_141 : Cond.static yX2_darkHours ∈ LW := lw_t2 (List.mem_of_getElem? (i := 141) rfl) rfl
theorem tw_2_142 : Cond.code yX2_darkHours cX2_darkHours 3 (some .int) ∈ LW := lw_t2 (List.mem_of_getElem? (i := 142) rfl) rfl
theorem tw_2_143 : Cond.methodLink RL 77 yX9_darkest ∈ LW := lw_t2 (List.mem_of_getElem? (i := 143) rfl) rfl
theorem tw_2_144 : Cond.instanceMethod yX9_darkest ∈ LW := lw_t2 (List.mem_of_getElem? (i := 144) rfl) rfl
theorem tw_2_145 : Cond.selects RX9 yX9_darkest yX9_darkest ∈ LW := lw_t2 (List.mem_of_getElem? (i := 145) rfl) rfl
theorem tw_2_146 : Cond.code yX9_darkest cX9_darkest 1 (some .int) ∈ LW := lw_t2 (List.mem_of_getElem? (i := 146) rfl) rfl
theorem tw_2_147 : Cond.methodLink RX9 153 yX2_darkestHour ∈ LW := lw_t2 (List.mem_of_getElem? (i := 147) rfl) rfl
theorem tw_2_148 : Cond.static yX2_darkestHour ∈ LW := lw_t2 (List.mem_of_getElem? (i := 148) rfl) rfl
theorem tw_2_149 : Cond.code yX2_darkestHour cX2_darkestHour 3 (some .int) ∈ LW := lw_t2 (List.mem_of_getElem? (i := 149) rfl) rfl
theorem tw_2_150 : Cond.methodLink RX2 29 yX0_wholeLight ∈ LW := lw_t2 (List.mem_of_getElem? (i := 150) rfl) rfl
theorem tw_2_151 : Cond.instanceMethod yX0_wholeLight ∈ LW := lw_t2 (List.mem_of_getElem? (i := 151) rfl) rfl
theorem tw_2_152 : Cond.selects RX0 yX0_wholeLight yX0_wholeLight ∈ LW := lw_t2 (List.mem_of_getElem? (i := 152) rfl) rfl
theorem tw_2_153 : Cond.code yX0_wholeLight cX0_wholeLight 4 (some .int) ∈ LW := lw_t2 (List.mem_of_getElem? (i := 153) rfl) rfl
theorem tw_2_154 : Cond.methodLink RL 81 yX9_bright ∈ LW := lw_t2 (List.mem_of_getElem? (i := 154) rfl) rfl
theorem tw_2_155 : Cond.instanceMethod yX9_bright ∈ LW := lw_t2 (List.mem_of_getElem? (i := 155) rfl) rfl
theorem tw_2_156 : Cond.selects RX9 yX9_bright yX9_bright ∈ LW := lw_t2 (List.mem_of_getElem? (i := 156) rfl) rfl
theorem tw_2_157 : Cond.code yX9_bright cX9_bright 3 (some .int) ∈ LW := lw_t2 (List.mem_of_getElem? (i := 157) rfl) rfl
theorem tw_2_158 : Cond.methodLink RX9 156 yX2_longestBrightFrom ∈ LW := lw_t2 (List.mem_of_getElem? (i := 158) rfl) rfl
theorem tw_2_159 : Cond.static yX2_longestBrightFrom ∈ LW := lw_t2 (List.mem_of_getElem? (i := 159) rfl) rfl
theorem tw_2_160 : Cond.code yX2_longestBrightFrom cX2_longestBrightFrom 3 (some .int) ∈ LW := lw_t2 (List.mem_of_getElem? (i := 160) rfl) rfl
theorem tw_2_161 : Cond.methodLink RX2 33 yX2_brightStretch ∈ LW := lw_t2 (List.mem_of_getElem? (i := 161) rfl) rfl
theorem tw_2_162 : Cond.static yX2_brightStretch ∈ LW := lw_t2 (List.mem_of_getElem? (i := 162) rfl) rfl
theorem tw_2_163 : Cond.code yX2_brightStretch cX2_brightStretch 3 (some .int) ∈ LW := lw_t2 (List.mem_of_getElem? (i := 163) rfl) rfl
theorem tw_2_164 : Cond.methodLink RX9 159 yX2_brightStretch ∈ LW := lw_t2 (List.mem_of_getElem? (i := 164) rfl) rfl
theorem tw_2_165 : Cond.methodLink RL 85 yX9_mirrors ∈ LW := lw_t2 (List.mem_of_getElem? (i := 165) rfl) rfl
theorem tw_2_166 : Cond.instanceMethod yX9_mirrors ∈ LW := lw_t2 (List.mem_of_getElem? (i := 166) rfl) rfl
theorem tw_2_167 : Cond.selects RX9 yX9_mirrors yX9_mirrors ∈ LW := lw_t2 (List.mem_of_getElem? (i := 167) rfl) rfl
theorem tw_2_168 : Cond.code yX9_mirrors cX9_mirrors 1 (some .int) ∈ LW := lw_t2 (List.mem_of_getElem? (i := 168) rfl) rfl
theorem tw_2_169 : Cond.methodLink RX9 162 yX2_fewestMirrors ∈ LW := lw_t2 (List.mem_of_getElem? (i := 169) rfl) rfl
theorem tw_2_170 : Cond.static yX2_fewestMirrors ∈ LW := lw_t2 (List.mem_of_getElem? (i := 170) rfl) rfl
theorem tw_2_171 : Cond.code yX2_fewestMirrors cX2_fewestMirrors 4 (some .int) ∈ LW := lw_t2 (List.mem_of_getElem? (i := 171) rfl) rfl
theorem tw_2_172 : Cond.methodLink RX2 39 yX0_lackOf ∈ LW := lw_t2 (List.mem_of_getElem? (i := 172) rfl) rfl
theorem tw_2_173 : Cond.methodLink RX2 42 yX0_roomLight ∈ LW := lw_t2 (List.mem_of_getElem? (i := 173) rfl) rfl
theorem tw_2_174 : Cond.methodLink RL 89 yX9_mean ∈ LW := lw_t2 (List.mem_of_getElem? (i := 174) rfl) rfl
theorem tw_2_175 : Cond.instanceMethod yX9_mean ∈ LW := lw_t2 (List.mem_of_getElem? (i := 175) rfl) rfl
theorem tw_2_176 : Cond.selects RX9 yX9_mean yX9_mean ∈ LW := lw_t2 (List.mem_of_getElem? (i := 176) rfl) rfl
theorem tw_2_177 : Cond.code yX9_mean cX9_mean 3 (some .long) ∈ LW := lw_t2 (List.mem_of_getElem? (i := 177) rfl) rfl
theorem tw_2_179 : Cond.methodLink RX9 167 yX2_dayLight ∈ LW := lw_t2 (List.mem_of_getElem? (i := 179) rfl) rfl
theorem tw_2_180 : Cond.static yX2_dayLight ∈ LW := lw_t2 (List.mem_of_getElem? (i := 180) rfl) rfl
theorem tw_2_181 : Cond.code yX2_dayLight cX2_dayLight 4 (some .int) ∈ LW := lw_t2 (List.mem_of_getElem? (i := 181) rfl) rfl
theorem tw_2_183 : Cond.methodLink RX9 173 yX4_leastTerms ∈ LW := lw_t2 (List.mem_of_getElem? (i := 183) rfl) rfl
theorem tw_2_184 : Cond.static yX4_leastTerms ∈ LW := lw_t2 (List.mem_of_getElem? (i := 184) rfl) rfl
theorem tw_2_185 : Cond.code yX4_leastTerms cX4_leastTerms 7 (some .long) ∈ LW := lw_t2 (List.mem_of_getElem? (i := 185) rfl) rfl
theorem tw_2_186 : Cond.methodLink RX4 7 yX4_commonDivisor ∈ LW := lw_t2 (List.mem_of_getElem? (i := 186) rfl) rfl
theorem tw_2_187 : Cond.static yX4_commonDivisor ∈ LW := lw_t2 (List.mem_of_getElem? (i := 187) rfl) rfl
theorem tw_2_188 : Cond.code yX4_commonDivisor cX4_commonDivisor 11 (some .long) ∈ LW := lw_t2 (List.mem_of_getElem? (i := 188) rfl) rfl
theorem tw_2_189 : Cond.methodLink RL 93 yX9_hidden ∈ LW := lw_t2 (List.mem_of_getElem? (i := 189) rfl) rfl
theorem tw_2_190 : Cond.instanceMethod yX9_hidden ∈ LW := lw_t2 (List.mem_of_getElem? (i := 190) rfl) rfl
theorem tw_2_191 : Cond.selects RX9 yX9_hidden yX9_hidden ∈ LW := lw_t2 (List.mem_of_getElem? (i := 191) rfl) rfl
theorem tw_2_192 : Cond.code yX9_hidden cX9_hidden 1 (some .int) ∈ LW := lw_t2 (List.mem_of_getElem? (i := 192) rfl) rfl
theorem tw_2_193 : Cond.methodLink RX9 179 yX2_mostStopped ∈ LW := lw_t2 (List.mem_of_getElem? (i := 193) rfl) rfl
theorem tw_2_194 : Cond.static yX2_mostStopped ∈ LW := lw_t2 (List.mem_of_getElem? (i := 194) rfl) rfl
theorem tw_2_195 : Cond.code yX2_mostStopped cX2_mostStopped 5 (some .int) ∈ LW := lw_t2 (List.mem_of_getElem? (i := 195) rfl) rfl
theorem tw_2_196 : Cond.methodLink RX2 45 yJ6_bitCount_0f7a4 ∈ LW := lw_t2 (List.mem_of_getElem? (i := 196) rfl) rfl
theorem tw_2_197 : Cond.static yJ6_bitCount_0f7a4 ∈ LW := lw_t2 (List.mem_of_getElem? (i := 197) rfl) rfl
theorem tw_2_198 : Cond.code yJ6_bitCount_0f7a4 cJ6_bitCount_0f7a4 1 (some .int) ∈ LW := lw_t2 (List.mem_of_getElem? (i := 198) rfl) rfl
theorem tw_2_202 : Cond.methodLink RX2 50 yX2_isDarkerAnywhere ∈ LW := lw_t2 (List.mem_of_getElem? (i := 202) rfl) rfl
theorem tw_2_203 : Cond.static yX2_isDarkerAnywhere ∈ LW := lw_t2 (List.mem_of_getElem? (i := 203) rfl) rfl
theorem tw_2_204 : Cond.code yX2_isDarkerAnywhere cX2_isDarkerAnywhere 4 (some .boolean) ∈ LW := lw_t2 (List.mem_of_getElem? (i := 204) rfl) rfl
theorem tw_2_205 : Cond.methodLink RL 97 yX9_looks ∈ LW := lw_t2 (List.mem_of_getElem? (i := 205) rfl) rfl
theorem tw_2_206 : Cond.instanceMethod yX9_looks ∈ LW := lw_t2 (List.mem_of_getElem? (i := 206) rfl) rfl
theorem tw_2_207 : Cond.selects RX9 yX9_looks yX9_looks ∈ LW := lw_t2 (List.mem_of_getElem? (i := 207) rfl) rfl
theorem tw_2_208 : Cond.code yX9_looks cX9_looks 1 (some .int) ∈ LW := lw_t2 (List.mem_of_getElem? (i := 208) rfl) rfl
theorem tw_2_209 : Cond.methodLink RX9 183 yX8_fewestLooks ∈ LW := lw_t2 (List.mem_of_getElem? (i := 209) rfl) rfl
theorem tw_2_210 : Cond.static yX8_fewestLooks ∈ LW := lw_t2 (List.mem_of_getElem? (i := 210) rfl) rfl
theorem tw_2_211 : Cond.code yX8_fewestLooks cX8_fewestLooks 4 (some .int) ∈ LW := lw_t2 (List.mem_of_getElem? (i := 211) rfl) rfl
theorem tw_2_212 : Cond.methodLink RX8 9 yX8_movingHours ∈ LW := lw_t2 (List.mem_of_getElem? (i := 212) rfl) rfl
theorem tw_2_213 : Cond.static yX8_movingHours ∈ LW := lw_t2 (List.mem_of_getElem? (i := 213) rfl) rfl
theorem tw_2_214 : Cond.code yX8_movingHours cX8_movingHours 3 (some (.array .int)) ∈ LW := lw_t2 (List.mem_of_getElem? (i := 214) rfl) rfl
theorem tw_2_215 : Cond.methodLink RX8 25 yX0_isWindow ∈ LW := lw_t2 (List.mem_of_getElem? (i := 215) rfl) rfl
theorem tw_2_216 : Cond.methodLink RX8 29 yX0_isStopped ∈ LW := lw_t2 (List.mem_of_getElem? (i := 216) rfl) rfl
theorem tw_2_217 : Cond.methodLink RX8 32 yX8_movingHoursOf ∈ LW := lw_t2 (List.mem_of_getElem? (i := 217) rfl) rfl
theorem tw_2_218 : Cond.static yX8_movingHoursOf ∈ LW := lw_t2 (List.mem_of_getElem? (i := 218) rfl) rfl
theorem tw_2_219 : Cond.code yX8_movingHoursOf cX8_movingHoursOf 4 (some .int) ∈ LW := lw_t2 (List.mem_of_getElem? (i := 219) rfl) rfl
theorem tw_2_220 : Cond.methodLink RX8 36 yX0_isMoving ∈ LW := lw_t2 (List.mem_of_getElem? (i := 220) rfl) rfl
theorem tw_2_221 : Cond.methodLink RX8 15 yX8_areAllUnlike ∈ LW := lw_t2 (List.mem_of_getElem? (i := 221) rfl) rfl
theorem tw_2_222 : Cond.static yX8_areAllUnlike ∈ LW := lw_t2 (List.mem_of_getElem? (i := 222) rfl) rfl
theorem tw_2_223 : Cond.code yX8_areAllUnlike cX8_areAllUnlike 4 (some .boolean) ∈ LW := lw_t2 (List.mem_of_getElem? (i := 223) rfl) rfl
theorem tw_2_224 : Cond.methodLink RX8 21 yX8_leastOfThreeLooks ∈ LW := lw_t2 (List.mem_of_getElem? (i := 224) rfl) rfl
theorem tw_2_225 : Cond.static yX8_leastOfThreeLooks ∈ LW := lw_t2 (List.mem_of_getElem? (i := 225) rfl) rfl
theorem tw_2_226 : Cond.code yX8_leastOfThreeLooks cX8_leastOfThreeLooks 5 (some .int) ∈ LW := lw_t2 (List.mem_of_getElem? (i := 226) rfl) rfl
theorem tw_2_227 : Cond.methodLink RL 101 yX9_mostMoving ∈ LW := lw_t2 (List.mem_of_getElem? (i := 227) rfl) rfl
theorem tw_2_228 : Cond.instanceMethod yX9_mostMoving ∈ LW := lw_t2 (List.mem_of_getElem? (i := 228) rfl) rfl
theorem tw_2_229 : Cond.selects RX9 yX9_mostMoving yX9_mostMoving ∈ LW := lw_t2 (List.mem_of_getElem? (i := 229) rfl) rfl
theorem tw_2_230 : Cond.code yX9_mostMoving cX9_mostMoving 3 (some .int) ∈ LW := lw_t2 (List.mem_of_getElem? (i := 230) rfl) rfl
theorem tw_2_231 : Cond.methodLink RX9 188 yX8_liveliestHour ∈ LW := lw_t2 (List.mem_of_getElem? (i := 231) rfl) rfl
theorem tw_2_232 : Cond.static yX8_liveliestHour ∈ LW := lw_t2 (List.mem_of_getElem? (i := 232) rfl) rfl
theorem tw_2_233 : Cond.code yX8_liveliestHour cX8_liveliestHour 3 (some .int) ∈ LW := lw_t2 (List.mem_of_getElem? (i := 233) rfl) rfl
theorem tw_2_234 : Cond.methodLink RX8 40 yX0_movingAt ∈ LW := lw_t2 (List.mem_of_getElem? (i := 234) rfl) rfl
theorem tw_2_235 : Cond.instanceMethod yX0_movingAt ∈ LW := lw_t2 (List.mem_of_getElem? (i := 235) rfl) rfl
theorem tw_2_236 : Cond.selects RX0 yX0_movingAt yX0_movingAt ∈ LW := lw_t2 (List.mem_of_getElem? (i := 236) rfl) rfl
theorem tw_2_237 : Cond.code yX0_movingAt cX0_movingAt 4 (some .int) ∈ LW := lw_t2 (List.mem_of_getElem? (i := 237) rfl) rfl
theorem tw_2_238 : Cond.methodLink RX9 191 yX0_movingAt ∈ LW := lw_t2 (List.mem_of_getElem? (i := 238) rfl) rfl
theorem tw_2_239 : Cond.methodLink RL 105 yX9_taken ∈ LW := lw_t2 (List.mem_of_getElem? (i := 239) rfl) rfl
theorem tw_3_0 : Cond.instanceMethod yX9_taken ∈ LW := lw_t3 (List.mem_of_getElem? (i := 0) rfl) rfl
theorem tw_3_1 : Cond.selects RX9 yX9_taken yX9_taken ∈ LW := lw_t3 (List.mem_of_getElem? (i := 1) rfl) rfl
theorem tw_3_2 : Cond.code yX9_taken cX9_taken 2 (some .int) ∈ LW := lw_t3 (List.mem_of_getElem? (i := 2) rfl) rfl
theorem tw_3_3 : Cond.methodLink RX9 194 yX0_isWithin ∈ LW := lw_t3 (List.mem_of_getElem? (i := 3) rfl) rfl
theorem tw_3_4 : Cond.methodLink RX9 198 yX8_takenForTrue ∈ LW := lw_t3 (List.mem_of_getElem? (i := 4) rfl) rfl
theorem tw_3_5 : Cond.static yX8_takenForTrue ∈ LW := lw_t3 (List.mem_of_getElem? (i := 5) rfl) rfl
theorem tw_3_6 : Cond.code yX8_takenForTrue cX8_takenForTrue 4 (some .int) ∈ LW := lw_t3 (List.mem_of_getElem? (i := 6) rfl) rfl
theorem tw_3_7 : Cond.methodLink RX8 51 yX0_seemingOf ∈ LW := lw_t3 (List.mem_of_getElem? (i := 7) rfl) rfl
theorem tw_3_8 : Cond.methodLink RX8 55 yX0_shineOf ∈ LW := lw_t3 (List.mem_of_getElem? (i := 8) rfl) rfl
theorem tw_3_9 : Cond.methodLink RL 109 yX9_bestHour ∈ LW := lw_t3 (List.mem_of_getElem? (i := 9) rfl) rfl
theorem tw_3_10 : Cond.instanceMethod yX9_bestHour ∈ LW := lw_t3 (List.mem_of_getElem? (i := 10) rfl) rfl
theorem tw_3_11 : Cond.selects RX9 yX9_bestHour yX9_bestHour ∈ LW := lw_t3 (List.mem_of_getElem? (i := 11) rfl) rfl
theorem tw_3_12 : Cond.code yX9_bestHour cX9_bestHour 2 (some .int) ∈ LW := lw_t3 (List.mem_of_getElem? (i := 12) rfl) rfl
theorem tw_3_13 : Cond.methodLink RX9 201 yX8_seemingHour ∈ LW := lw_t3 (List.mem_of_getElem? (i := 13) rfl) rfl
theorem tw_3_14 : Cond.static yX8_seemingHour ∈ LW := lw_t3 (List.mem_of_getElem? (i := 14) rfl) rfl
theorem tw_3_15 : Cond.code yX8_seemingHour cX8_seemingHour 4 (some .int) ∈ LW := lw_t3 (List.mem_of_getElem? (i := 15) rfl) rfl
theorem tw_3_16 : Cond.methodLink RX8 62 yX1_isPainted ∈ LW := lw_t3 (List.mem_of_getElem? (i := 16) rfl) rfl
theorem tw_3_17 : Cond.static yX1_isPainted ∈ LW := lw_t3 (List.mem_of_getElem? (i := 17) rfl) rfl
theorem tw_3_18 : Cond.code yX1_isPainted cX1_isPainted 1 (some .boolean) ∈ LW := lw_t3 (List.mem_of_getElem? (i := 18) rfl) rfl
theorem tw_3_19 : Cond.methodLink RX8 67 yX0_unstoppedSeeming ∈ LW := lw_t3 (List.mem_of_getElem? (i := 19) rfl) rfl
theorem tw_3_20 : Cond.methodLink RL 113 yX9_game ∈ LW := lw_t3 (List.mem_of_getElem? (i := 20) rfl) rfl
theorem tw_3_21 : Cond.instanceMethod yX9_game ∈ LW := lw_t3 (List.mem_of_getElem? (i := 21) rfl) rfl
theorem tw_3_22 : Cond.selects RX9 yX9_game yX9_game ∈ LW := lw_t3 (List.mem_of_getElem? (i := 22) rfl) rfl
theorem tw_3_23 : Cond.code yX9_game cX9_game 3 (some .int) ∈ LW := lw_t3 (List.mem_of_getElem? (i := 23) rfl) rfl
theorem tw_3_24 : Cond.methodLink RX9 206 yX5_mostDue ∈ LW := lw_t3 (List.mem_of_getElem? (i := 24) rfl) rfl
theorem tw_3_25 : Cond.static yX5_mostDue ∈ LW := lw_t3 (List.mem_of_getElem? (i := 25) rfl) rfl
theorem tw_3_26 : Cond.code yX5_mostDue cX5_mostDue 2 (some .int) ∈ LW := lw_t3 (List.mem_of_getElem? (i := 26) rfl) rfl
theorem tw_3_27 : Cond.methodLink RX5 15 yX5_gained ∈ LW := lw_t3 (List.mem_of_getElem? (i := 27) rfl) rfl
theorem tw_3_28 : Cond.static yX5_gained ∈ LW := lw_t3 (List.mem_of_getElem? (i := 28) rfl) rfl
theorem tw_3_29 : Cond.code yX5_gained cX5_gained 6 (some .int) ∈ LW := lw_t3 (List.mem_of_getElem? (i := 29) rfl) rfl
theorem tw_3_30 : Cond.methodLink RX5 21 yX5_gainedBy ∈ LW := lw_t3 (List.mem_of_getElem? (i := 30) rfl) rfl
theorem tw_3_31 : Cond.static yX5_gainedBy ∈ LW := lw_t3 (List.mem_of_getElem? (i := 31) rfl) rfl
theorem tw_3_32 : Cond.code yX5_gainedBy cX5_gainedBy 9 (some .int) ∈ LW := lw_t3 (List.mem_of_getElem? (i := 32) rfl) rfl
theorem tw_3_33 : Cond.methodLink RX5 31 yX5_seenAt ∈ LW := lw_t3 (List.mem_of_getElem? (i := 33) rfl) rfl
theorem tw_3_34 : Cond.static yX5_seenAt ∈ LW := lw_t3 (List.mem_of_getElem? (i := 34) rfl) rfl
theorem tw_3_35 : Cond.code yX5_seenAt cX5_seenAt 5 (some .int) ∈ LW := lw_t3 (List.mem_of_getElem? (i := 35) rfl) rfl
theorem tw_3_36 : Cond.methodLink RX5 41 yX0_isMoving ∈ LW := lw_t3 (List.mem_of_getElem? (i := 36) rfl) rfl
theorem tw_3_37 : Cond.methodLink RX5 38 yJ9_min_7cf53 ∈ LW := lw_t3 (List.mem_of_getElem? (i := 37) rfl) rfl
theorem tw_3_38 : Cond.methodLink RX5 25 yJ9_max_7cf53 ∈ LW := lw_t3 (List.mem_of_getElem? (i := 38) rfl) rfl
theorem tw_3_39 : Cond.methodLink RX9 209 yX5_firstHour ∈ LW := lw_t3 (List.mem_of_getElem? (i := 39) rfl) rfl
theorem tw_3_40 : Cond.static yX5_firstHour ∈ LW := lw_t3 (List.mem_of_getElem? (i := 40) rfl) rfl
theorem tw_3_41 : Cond.code yX5_firstHour cX5_firstHour 6 (some .int) ∈ LW := lw_t3 (List.mem_of_getElem? (i := 41) rfl) rfl
theorem tw_3_42 : Cond.methodLink RL 117 yX9_suitor ∈ LW := lw_t3 (List.mem_of_getElem? (i := 42) rfl) rfl
theorem tw_3_43 : Cond.instanceMethod yX9_suitor ∈ LW := lw_t3 (List.mem_of_getElem? (i := 43) rfl) rfl
theorem tw_3_44 : Cond.selects RX9 yX9_suitor yX9_suitor ∈ LW := lw_t3 (List.mem_of_getElem? (i := 44) rfl) rfl
theorem tw_3_45 : Cond.code yX9_suitor cX9_suitor 2 (some .int) ∈ LW := lw_t3 (List.mem_of_getElem? (i := 45) rfl) rfl
theorem tw_3_46 : Cond.methodLink RX9 215 yX8_addressed ∈ LW := lw_t3 (List.mem_of_getElem? (i := 46) rfl) rfl
theorem tw_3_47 : Cond.static yX8_addressed ∈ LW := lw_t3 (List.mem_of_getElem? (i := 47) rfl) rfl
theorem tw_3_48 : Cond.code yX8_addressed cX8_addressed 4 (some .int) ∈ LW := lw_t3 (List.mem_of_getElem? (i := 48) rfl) rfl
theorem tw_3_49 : Cond.methodLink RX8 70 yX8_isPreferred ∈ LW := lw_t3 (List.mem_of_getElem? (i := 49) rfl) rfl
theorem tw_3_50 : Cond.static yX8_isPreferred ∈ LW := lw_t3 (List.mem_of_getElem? (i := 50) rfl) rfl
theorem tw_3_51 : Cond.code yX8_isPreferred cX8_isPreferred 6 (some .boolean) ∈ LW := lw_t3 (List.mem_of_getElem? (i := 51) rfl) rfl
theorem tw_3_52 : Cond.methodLink RX9 218 yX8_daysToAnother ∈ LW := lw_t3 (List.mem_of_getElem? (i := 52) rfl) rfl
theorem tw_3_53 : Cond.static yX8_daysToAnother ∈ LW := lw_t3 (List.mem_of_getElem? (i := 53) rfl) rfl
theorem tw_3_54 : Cond.code yX8_daysToAnother cX8_daysToAnother 4 (some .int) ∈ LW := lw_t3 (List.mem_of_getElem? (i := 54) rfl) rfl
theorem tw_3_55 : Cond.methodLink RX8 77 yX8_addressed ∈ LW := lw_t3 (List.mem_of_getElem? (i := 55) rfl) rfl
theorem tw_3_56 : Cond.methodLink RL 121 yX9_twins ∈ LW := lw_t3 (List.mem_of_getElem? (i := 56) rfl) rfl
theorem tw_3_57 : Cond.instanceMethod yX9_twins ∈ LW := lw_t3 (List.mem_of_getElem? (i := 57) rfl) rfl
theorem tw_3_58 : Cond.selects RX9 yX9_twins yX9_twins ∈ LW := lw_t3 (List.mem_of_getElem? (i := 58) rfl) rfl
theorem tw_3_59 : Cond.code yX9_twins cX9_twins 2 (some .int) ∈ LW := lw_t3 (List.mem_of_getElem? (i := 59) rfl) rfl
theorem tw_3_60 : Cond.methodLink RX9 221 yX8_twinPairs ∈ LW := lw_t3 (List.mem_of_getElem? (i := 60) rfl) rfl
theorem tw_3_61 : Cond.static yX8_twinPairs ∈ LW := lw_t3 (List.mem_of_getElem? (i := 61) rfl) rfl
theorem tw_3_62 : Cond.code yX8_twinPairs cX8_twinPairs 4 (some .int) ∈ LW := lw_t3 (List.mem_of_getElem? (i := 62) rfl) rfl
theorem tw_3_63 : Cond.methodLink RX8 80 yX8_areTwins ∈ LW := lw_t3 (List.mem_of_getElem? (i := 63) rfl) rfl
theorem tw_3_64 : Cond.static yX8_areTwins ∈ LW := lw_t3 (List.mem_of_getElem? (i := 64) rfl) rfl
theorem tw_3_65 : Cond.code yX8_areTwins cX8_areTwins 4 (some .boolean) ∈ LW := lw_t3 (List.mem_of_getElem? (i := 65) rfl) rfl
theorem tw_3_66 : Cond.methodLink RX9 224 yX8_firstTwins ∈ LW := lw_t3 (List.mem_of_getElem? (i := 66) rfl) rfl
theorem tw_3_67 : Cond.static yX8_firstTwins ∈ LW := lw_t3 (List.mem_of_getElem? (i := 67) rfl) rfl
theorem tw_3_68 : Cond.code yX8_firstTwins cX8_firstTwins 3 (some .int) ∈ LW := lw_t3 (List.mem_of_getElem? (i := 68) rfl) rfl
theorem tw_3_69 : Cond.methodLink RL 125 yX9_whatWas ∈ LW := lw_t3 (List.mem_of_getElem? (i := 69) rfl) rfl
theorem tw_3_70 : Cond.instanceMethod yX9_whatWas ∈ LW := lw_t3 (List.mem_of_getElem? (i := 70) rfl) rfl
theorem tw_3_71 : Cond.selects RX9 yX9_whatWas yX9_whatWas ∈ LW := lw_t3 (List.mem_of_getElem? (i := 71) rfl) rfl
theorem tw_3_72 : Cond.code yX9_whatWas cX9_whatWas 8 (some .int) ∈ LW := lw_t3 (List.mem_of_getElem? (i := 72) rfl) rfl
theorem tw_3_73 : Cond.methodLink RX9 227 yX1_isFigure ∈ LW := lw_t3 (List.mem_of_getElem? (i := 73) rfl) rfl
theorem tw_3_74 : Cond.methodLink RX9 233 yX2_kindsThatShine ∈ LW := lw_t3 (List.mem_of_getElem? (i := 74) rfl) rfl
theorem tw_3_75 : Cond.static yX2_kindsThatShine ∈ LW := lw_t3 (List.mem_of_getElem? (i := 75) rfl) rfl
theorem tw_3_76 : Cond.code yX2_kindsThatShine cX2_kindsThatShine 5 (some .int) ∈ LW := lw_t3 (List.mem_of_getElem? (i := 76) rfl) rfl
theorem tw_3_77 : Cond.methodLink RX2 56 yX2_isShineOf ∈ LW := lw_t3 (List.mem_of_getElem? (i := 77) rfl) rfl
theorem tw_3_78 : Cond.static yX2_isShineOf ∈ LW := lw_t3 (List.mem_of_getElem? (i := 78) rfl) rfl
theorem tw_3_79 : Cond.code yX2_isShineOf cX2_isShineOf 6 (some .boolean) ∈ LW := lw_t3 (List.mem_of_getElem? (i := 79) rfl) rfl
theorem tw_3_80 : Cond.methodLink RX2 69 yX6_untold ∈ LW := lw_t3 (List.mem_of_getElem? (i := 80) rfl) rfl
theorem tw_3_81 : Cond.instanceMethod yX6_untold ∈ LW := lw_t3 (List.mem_of_getElem? (i := 81) rfl) rfl
theorem tw_3_82 : Cond.selects RX6 yX6_untold yX6_untold ∈ LW := lw_t3 (List.mem_of_getElem? (i := 82) rfl) rfl
theorem tw_3_83 : Cond.code yX6_untold cX6_untold 1 (some .int) ∈ LW := lw_t3 (List.mem_of_getElem? (i := 83) rfl) rfl
theorem tw_3_85 : Cond.methodLink RX2 72 yX1_apart ∈ LW := lw_t3 (List.mem_of_getElem? (i := 85) rfl) rfl
theorem tw_3_86 : Cond.methodLink RX2 75 yX1_shine ∈ LW := lw_t3 (List.mem_of_getElem? (i := 86) rfl) rfl
theorem tw_3_87 : Cond.methodLink RX9 237 yJ6_bitCount_0f7a4 ∈ LW := lw_t3 (List.mem_of_getElem? (i := 87) rfl) rfl
theorem tw_3_88 : Cond.methodLink RL 130 yX9_paidOff ∈ LW := lw_t3 (List.mem_of_getElem? (i := 88) rfl) rfl
theorem tw_3_89 : Cond.instanceMethod yX9_paidOff ∈ LW := lw_t3 (List.mem_of_getElem? (i := 89) rfl) rfl
theorem tw_3_90 : Cond.selects RX9 yX9_paidOff yX9_paidOff ∈ LW := lw_t3 (List.mem_of_getElem? (i := 90) rfl) rfl
theorem tw_3_91 : Cond.code yX9_paidOff cX9_paidOff 2 (some .int) ∈ LW := lw_t3 (List.mem_of_getElem? (i := 91) rfl) rfl
theorem tw_3_92 : Cond.methodLink RX9 242 yX0_isPayment ∈ LW := lw_t3 (List.mem_of_getElem? (i := 92) rfl) rfl
theorem tw_3_93 : Cond.methodLink RX9 245 yX3_yearPaidOff ∈ LW := lw_t3 (List.mem_of_getElem? (i := 93) rfl) rfl
theorem tw_3_94 : Cond.static yX3_yearPaidOff ∈ LW := lw_t3 (List.mem_of_getElem? (i := 94) rfl) rfl
theorem tw_3_95 : Cond.code yX3_yearPaidOff cX3_yearPaidOff 4 (some .int) ∈ LW := lw_t3 (List.mem_of_getElem? (i := 95) rfl) rfl
theorem tw_3_96 : Cond.methodLink RX3 20 yX0_owedBehindYear ∈ LW := lw_t3 (List.mem_of_getElem? (i := 96) rfl) rfl
theorem tw_3_97 : Cond.methodLink RX3 24 yJ9_max_7cf53 ∈ LW := lw_t3 (List.mem_of_getElem? (i := 97) rfl) rfl
theorem tw_3_98 : Cond.methodLink RL 134 yX9_rain ∈ LW := lw_t3 (List.mem_of_getElem? (i := 98) rfl) rfl
theorem tw_3_99 : Cond.instanceMethod yX9_rain ∈ LW := lw_t3 (List.mem_of_getElem? (i := 99) rfl) rfl
theorem tw_3_100 : Cond.selects RX9 yX9_rain yX9_rain ∈ LW := lw_t3 (List.mem_of_getElem? (i := 100) rfl) rfl
theorem tw_3_101 : Cond.code yX9_rain cX9_rain 5 (some .long) ∈ LW := lw_t3 (List.mem_of_getElem? (i := 101) rfl) rfl
theorem tw_3_102 : Cond.methodLink RX9 250 yX4_wetWays ∈ LW := lw_t3 (List.mem_of_getElem? (i := 102) rfl) rfl
theorem tw_3_103 : Cond.static yX4_wetWays ∈ LW := lw_t3 (List.mem_of_getElem? (i := 103) rfl) rfl
theorem tw_3_104 : Cond.code yX4_wetWays cX4_wetWays 8 (some .long) ∈ LW := lw_t3 (List.mem_of_getElem? (i := 104) rfl) rfl
theorem tw_3_105 : Cond.methodLink RX4 13 yX4_power ∈ LW := lw_t3 (List.mem_of_getElem? (i := 105) rfl) rfl
theorem tw_3_106 : Cond.static yX4_power ∈ LW := lw_t3 (List.mem_of_getElem? (i := 106) rfl) rfl
theorem tw_3_107 : Cond.code yX4_power cX4_power 6 (some .long) ∈ LW := lw_t3 (List.mem_of_getElem? (i := 107) rfl) rfl
theorem tw_3_108 : Cond.methodLink RX9 254 yX4_power ∈ LW := lw_t3 (List.mem_of_getElem? (i := 108) rfl) rfl
theorem tw_3_109 : Cond.methodLink RL 139 yX9_loophole ∈ LW := lw_t3 (List.mem_of_getElem? (i := 109) rfl) rfl
theorem tw_3_110 : Cond.instanceMethod yX9_loophole ∈ LW := lw_t3 (List.mem_of_getElem? (i := 110) rfl) rfl
theorem tw_3_111 : Cond.selects RX9 yX9_loophole yX9_loophole ∈ LW := lw_t3 (List.mem_of_getElem? (i := 111) rfl) rfl
theorem tw_3_112 : Cond.code yX9_loophole cX9_loophole 1 (some .int) ∈ LW := lw_t3 (List.mem_of_getElem? (i := 112) rfl) rfl
theorem tw_3_113 : Cond.methodLink RX9 258 yX3_cheapestChange ∈ LW := lw_t3 (List.mem_of_getElem? (i := 113) rfl) rfl
theorem tw_3_114 : Cond.static yX3_cheapestChange ∈ LW := lw_t3 (List.mem_of_getElem? (i := 114) rfl) rfl
theorem tw_3_115 : Cond.code yX3_cheapestChange cX3_cheapestChange 7 (some .int) ∈ LW := lw_t3 (List.mem_of_getElem? (i := 115) rfl) rfl
theorem tw_3_116 : Cond.methodLink RX3 29 yX0_openDues ∈ LW := lw_t3 (List.mem_of_getElem? (i := 116) rfl) rfl
theorem tw_3_117 : Cond.methodLink RX3 42 yX3_lacksMore ∈ LW := lw_t3 (List.mem_of_getElem? (i := 117) rfl) rfl
theorem tw_3_118 : Cond.static yX3_lacksMore ∈ LW := lw_t3 (List.mem_of_getElem? (i := 118) rfl) rfl
theorem tw_3_119 : Cond.code yX3_lacksMore cX3_lacksMore 3 (some .boolean) ∈ LW := lw_t3 (List.mem_of_getElem? (i := 119) rfl) rfl
theorem tw_3_120 : Cond.methodLink RX3 46 yX0_lackOf ∈ LW := lw_t3 (List.mem_of_getElem? (i := 120) rfl) rfl
theorem tw_3_121 : Cond.methodLink RL 143 yX9_forged ∈ LW := lw_t3 (List.mem_of_getElem? (i := 121) rfl) rfl
theorem tw_3_122 : Cond.instanceMethod yX9_forged ∈ LW := lw_t3 (List.mem_of_getElem? (i := 122) rfl) rfl
theorem tw_3_123 : Cond.selects RX9 yX9_forged yX9_forged ∈ LW := lw_t3 (List.mem_of_getElem? (i := 123) rfl) rfl
theorem tw_3_124 : Cond.code yX9_forged cX9_forged 3 (some .int) ∈ LW := lw_t3 (List.mem_of_getElem? (i := 124) rfl) rfl
theorem tw_3_125 : Cond.methodLink RX9 261 yX3_forgedPlace ∈ LW := lw_t3 (List.mem_of_getElem? (i := 125) rfl) rfl
theorem tw_3_126 : Cond.static yX3_forgedPlace ∈ LW := lw_t3 (List.mem_of_getElem? (i := 126) rfl) rfl
theorem tw_3_127 : Cond.code yX3_forgedPlace cX3_forgedPlace 5 (some .int) ∈ LW := lw_t3 (List.mem_of_getElem? (i := 127) rfl) rfl
theorem tw_3_128 : Cond.methodLink RX3 49 yX3_forgedPlaceFrom ∈ LW := lw_t3 (List.mem_of_getElem? (i := 128) rfl) rfl
theorem tw_3_129 : Cond.static yX3_forgedPlaceFrom ∈ LW := lw_t3 (List.mem_of_getElem? (i := 129) rfl) rfl
theorem tw_3_130 : Cond.code yX3_forgedPlaceFrom cX3_forgedPlaceFrom 4 (some .int) ∈ LW := lw_t3 (List.mem_of_getElem? (i := 130) rfl) rfl
theorem tw_3_131 : Cond.methodLink RX3 61 yX0_movingAt ∈ LW := lw_t3 (List.mem_of_getElem? (i := 131) rfl) rfl
theorem tw_3_132 : Cond.methodLink RL 147 yX9_judge ∈ LW := lw_t3 (List.mem_of_getElem? (i := 132) rfl) rfl
theorem tw_3_133 : Cond.instanceMethod yX9_judge ∈ LW := lw_t3 (List.mem_of_getElem? (i := 133) rfl) rfl
theorem tw_3_134 : Cond.selects RX9 yX9_judge yX9_judge ∈ LW := lw_t3 (List.mem_of_getElem? (i := 134) rfl) rfl
theorem tw_3_135 : Cond.code yX9_judge cX9_judge 3 (some .int) ∈ LW := lw_t3 (List.mem_of_getElem? (i := 135) rfl) rfl
theorem tw_3_136 : Cond.methodLink RX9 265 yX3_wrongYear ∈ LW := lw_t3 (List.mem_of_getElem? (i := 136) rfl) rfl
theorem tw_3_137 : Cond.static yX3_wrongYear ∈ LW := lw_t3 (List.mem_of_getElem? (i := 137) rfl) rfl
theorem tw_3_138 : Cond.code yX3_wrongYear cX3_wrongYear 4 (some .int) ∈ LW := lw_t3 (List.mem_of_getElem? (i := 138) rfl) rfl
theorem tw_3_139 : Cond.methodLink RX3 65 yX6_untold ∈ LW := lw_t3 (List.mem_of_getElem? (i := 139) rfl) rfl
theorem tw_3_140 : Cond.methodLink RL 151 yX9_lots ∈ LW := lw_t3 (List.mem_of_getElem? (i := 140) rfl) rfl
theorem tw_3_141 : Cond.instanceMethod yX9_lots ∈ LW := lw_t3 (List.mem_of_getElem? (i := 141) rfl) rfl
theorem tw_3_142 : Cond.selects RX9 yX9_lots yX9_lots ∈ LW := lw_t3 (List.mem_of_getElem? (i := 142) rfl) rfl
theorem tw_3_143 : Cond.code yX9_lots cX9_lots 4 (some .int) ∈ LW := lw_t3 (List.mem_of_getElem? (i := 143) rfl) rfl
theorem tw_3_144 : Cond.methodLink RX9 268 yX3_drawnYears ∈ LW := lw_t3 (List.mem_of_getElem? (i := 144) rfl) rfl
theorem tw_3_145 : Cond.static yX3_drawnYears ∈ LW := lw_t3 (List.mem_of_getElem? (i := 145) rfl) rfl
theorem tw_3_146 : Cond.code yX3_drawnYears cX3_drawnYears 11 (some .int) ∈ LW := lw_t3 (List.mem_of_getElem? (i := 146) rfl) rfl
theorem tw_3_150 : Cond.methodLink RL 155 yX9_image ∈ LW := lw_t3 (List.mem_of_getElem? (i := 150) rfl) rfl
theorem tw_3_151 : Cond.instanceMethod yX9_image ∈ LW := lw_t3 (List.mem_of_getElem? (i := 151) rfl) rfl
theorem tw_3_152 : Cond.selects RX9 yX9_image yX9_image ∈ LW := lw_t3 (List.mem_of_getElem? (i := 152) rfl) rfl
theorem tw_3_153 : Cond.code yX9_image cX9_image 1 (some .int) ∈ LW := lw_t3 (List.mem_of_getElem? (i := 153) rfl) rfl
theorem tw_3_154 : Cond.methodLink RL 159 yX9_restore ∈ LW := lw_t3 (List.mem_of_getElem? (i := 154) rfl) rfl
theorem tw_3_155 : Cond.instanceMethod yX9_restore ∈ LW := lw_t3 (List.mem_of_getElem? (i := 155) rfl) rfl
theorem tw_3_156 : Cond.selects RX9 yX9_restore yX9_restore ∈ LW := lw_t3 (List.mem_of_getElem? (i := 156) rfl) rfl
theorem tw_3_157 : Cond.code yX9_restore cX9_restore 1 (some .int) ∈ LW := lw_t3 (List.mem_of_getElem? (i := 157) rfl) rfl
theorem tw_3_158 : Cond.methodLink RL 163 yX9_count ∈ LW := lw_t3 (List.mem_of_getElem? (i := 158) rfl) rfl
theorem tw_3_159 : Cond.instanceMethod yX9_count ∈ LW := lw_t3 (List.mem_of_getElem? (i := 159) rfl) rfl
theorem tw_3_160 : Cond.selects RX9 yX9_count yX9_count ∈ LW := lw_t3 (List.mem_of_getElem? (i := 160) rfl) rfl
theorem tw_3_161 : Cond.code yX9_count cX9_count 2 (some .int) ∈ LW := lw_t3 (List.mem_of_getElem? (i := 161) rfl) rfl
theorem tw_3_162 : Cond.methodLink RX9 284 yX0_allNeeds ∈ LW := lw_t3 (List.mem_of_getElem? (i := 162) rfl) rfl
theorem tw_3_163 : Cond.instanceMethod yX0_allNeeds ∈ LW := lw_t3 (List.mem_of_getElem? (i := 163) rfl) rfl
theorem tw_3_164 : Cond.selects RX0 yX0_allNeeds yX0_allNeeds ∈ LW := lw_t3 (List.mem_of_getElem? (i := 164) rfl) rfl
theorem tw_3_165 : Cond.code yX0_allNeeds cX0_allNeeds 3 (some .int) ∈ LW := lw_t3 (List.mem_of_getElem? (i := 165) rfl) rfl
theorem tw_3_166 : Cond.methodLink RX9 287 yX0_wholeLight ∈ LW := lw_t3 (List.mem_of_getElem? (i := 166) rfl) rfl
theorem tw_3_167 : Cond.methodLink RL 167 yX9_keep ∈ LW := lw_t3 (List.mem_of_getElem? (i := 167) rfl) rfl
theorem tw_3_168 : Cond.instanceMethod yX9_keep ∈ LW := lw_t3 (List.mem_of_getElem? (i := 168) rfl) rfl
theorem tw_3_169 : Cond.selects RX9 yX9_keep yX9_keep ∈ LW := lw_t3 (List.mem_of_getElem? (i := 169) rfl) rfl
theorem tw_3_170 : Cond.code yX9_keep cX9_keep 5 (some .int) ∈ LW := lw_t3 (List.mem_of_getElem? (i := 170) rfl) rfl
theorem tw_3_171 : Cond.methodLink RX9 290 yX6_clearOut ∈ LW := lw_t3 (List.mem_of_getElem? (i := 171) rfl) rfl
theorem tw_3_172 : Cond.instanceMethod yX6_clearOut ∈ LW := lw_t3 (List.mem_of_getElem? (i := 172) rfl) rfl
theorem tw_3_173 : Cond.selects RX6 yX6_clearOut yX6_clearOut ∈ LW := lw_t3 (List.mem_of_getElem? (i := 173) rfl) rfl
theorem tw_3_174 : Cond.code yX6_clearOut cX6_clearOut 1 none ∈ LW := lw_t3 (List.mem_of_getElem? (i := 174) rfl) rfl
theorem tw_3_175 : Cond.methodLink RX9 293 yX1_isKind ∈ LW := lw_t3 (List.mem_of_getElem? (i := 175) rfl) rfl
theorem tw_3_176 : Cond.methodLink RX9 296 yX6_holdKind ∈ LW := lw_t3 (List.mem_of_getElem? (i := 176) rfl) rfl
theorem tw_3_177 : Cond.instanceMethod yX6_holdKind ∈ LW := lw_t3 (List.mem_of_getElem? (i := 177) rfl) rfl
theorem tw_3_178 : Cond.selects RX6 yX6_holdKind yX6_holdKind ∈ LW := lw_t3 (List.mem_of_getElem? (i := 178) rfl) rfl
theorem tw_3_179 : Cond.code yX6_holdKind cX6_holdKind 3 none ∈ LW := lw_t3 (List.mem_of_getElem? (i := 179) rfl) rfl
theorem tw_3_180 : Cond.methodLink RL 171 yX9_row ∈ LW := lw_t3 (List.mem_of_getElem? (i := 180) rfl) rfl
theorem tw_3_181 : Cond.instanceMethod yX9_row ∈ LW := lw_t3 (List.mem_of_getElem? (i := 181) rfl) rfl
theorem tw_3_182 : Cond.selects RX9 yX9_row yX9_row ∈ LW := lw_t3 (List.mem_of_getElem? (i := 182) rfl) rfl
theorem tw_3_183 : Cond.code yX9_row cX9_row 4 (some .int) ∈ LW := lw_t3 (List.mem_of_getElem? (i := 183) rfl) rfl
theorem tw_3_184 : Cond.methodLink RX9 300 yX6_isSort ∈ LW := lw_t3 (List.mem_of_getElem? (i := 184) rfl) rfl
theorem tw_3_185 : Cond.static yX6_isSort ∈ LW := lw_t3 (List.mem_of_getElem? (i := 185) rfl) rfl
theorem tw_3_186 : Cond.code yX6_isSort cX6_isSort 1 (some .boolean) ∈ LW := lw_t3 (List.mem_of_getElem? (i := 186) rfl) rfl
theorem tw_3_187 : Cond.methodLink RX9 303 yX6_holdRow ∈ LW := lw_t3 (List.mem_of_getElem? (i := 187) rfl) rfl
theorem tw_3_188 : Cond.instanceMethod yX6_holdRow ∈ LW := lw_t3 (List.mem_of_getElem? (i := 188) rfl) rfl
theorem tw_3_189 : Cond.selects RX6 yX6_holdRow yX6_holdRow ∈ LW := lw_t3 (List.mem_of_getElem? (i := 189) rfl) rfl
theorem tw_3_190 : Cond.code yX6_holdRow cX6_holdRow 4 none ∈ LW := lw_t3 (List.mem_of_getElem? (i := 190) rfl) rfl
theorem tw_3_191 : Cond.methodLink RL 175 yX9_put ∈ LW := lw_t3 (List.mem_of_getElem? (i := 191) rfl) rfl
theorem tw_3_192 : Cond.instanceMethod yX9_put ∈ LW := lw_t3 (List.mem_of_getElem? (i := 192) rfl) rfl
theorem tw_3_193 : Cond.selects RX9 yX9_put yX9_put ∈ LW := lw_t3 (List.mem_of_getElem? (i := 193) rfl) rfl
theorem tw_3_194 : Cond.code yX9_put cX9_put 6 (some .int) ∈ LW := lw_t3 (List.mem_of_getElem? (i := 194) rfl) rfl
theorem tw_3_195 : Cond.methodLink RX9 306 yX6_isPlace ∈ LW := lw_t3 (List.mem_of_getElem? (i := 195) rfl) rfl
theorem tw_3_196 : Cond.methodLink RX9 309 yX6_write ∈ LW := lw_t3 (List.mem_of_getElem? (i := 196) rfl) rfl
theorem tw_3_197 : Cond.instanceMethod yX6_write ∈ LW := lw_t3 (List.mem_of_getElem? (i := 197) rfl) rfl
theorem tw_3_198 : Cond.selects RX6 yX6_write yX6_write ∈ LW := lw_t3 (List.mem_of_getElem? (i := 198) rfl) rfl
theorem tw_3_199 : Cond.code yX6_write cX6_write 3 none ∈ LW := lw_t3 (List.mem_of_getElem? (i := 199) rfl) rfl
theorem tw_3_200 : Cond.methodLink RL 188 yX9_copy ∈ LW := lw_t3 (List.mem_of_getElem? (i := 200) rfl) rfl
theorem tw_3_201 : Cond.instanceMethod yX9_copy ∈ LW := lw_t3 (List.mem_of_getElem? (i := 201) rfl) rfl
theorem tw_3_202 : Cond.selects RX9 yX9_copy yX9_copy ∈ LW := lw_t3 (List.mem_of_getElem? (i := 202) rfl) rfl
theorem tw_3_203 : Cond.code yX9_copy cX9_copy 8 (some .int) ∈ LW := lw_t3 (List.mem_of_getElem? (i := 203) rfl) rfl
theorem tw_3_204 : Cond.methodLink RX9 332 yX6_isStretch ∈ LW := lw_t3 (List.mem_of_getElem? (i := 204) rfl) rfl
theorem tw_3_205 : Cond.instanceMethod yX6_isStretch ∈ LW := lw_t3 (List.mem_of_getElem? (i := 205) rfl) rfl
theorem tw_3_206 : Cond.selects RX6 yX6_isStretch yX6_isStretch ∈ LW := lw_t3 (List.mem_of_getElem? (i := 206) rfl) rfl
theorem tw_3_207 : Cond.code yX6_isStretch cX6_isStretch 3 (some .boolean) ∈ LW := lw_t3 (List.mem_of_getElem? (i := 207) rfl) rfl
theorem tw_3_208 : Cond.methodLink RX9 335 (⟨"java/lang/System", "arraycopy", "(Ljava/lang/Object;ILjava/lang/Object;II)V"⟩ : MethodName) ∈ LW := lw_t3 (List.mem_of_getElem? (i := 208) rfl) rfl
theorem tw_3_209 : Cond.methodLink RL 193 yX9_cost ∈ LW := lw_t3 (List.mem_of_getElem? (i := 209) rfl) rfl
theorem tw_3_210 : Cond.instanceMethod yX9_cost ∈ LW := lw_t3 (List.mem_of_getElem? (i := 210) rfl) rfl
theorem tw_3_211 : Cond.selects RX9 yX9_cost yX9_cost ∈ LW := lw_t3 (List.mem_of_getElem? (i := 211) rfl) rfl
theorem tw_3_212 : Cond.code yX9_cost cX9_cost 3 (some .int) ∈ LW := lw_t3 (List.mem_of_getElem? (i := 212) rfl) rfl
theorem tw_3_213 : Cond.methodLink RX9 341 yX1_price ∈ LW := lw_t3 (List.mem_of_getElem? (i := 213) rfl) rfl
theorem tw_3_214 : Cond.static yX1_price ∈ LW := lw_t3 (List.mem_of_getElem? (i := 214) rfl) rfl
theorem tw_3_215 : Cond.code yX1_price cX1_price 5 (some .int) ∈ LW := lw_t3 (List.mem_of_getElem? (i := 215) rfl) rfl
theorem tw_3_216 : Cond.methodLink RL 197 yX9_toss ∈ LW := lw_t3 (List.mem_of_getElem? (i := 216) rfl) rfl
theorem tw_3_217 : Cond.instanceMethod yX9_toss ∈ LW := lw_t3 (List.mem_of_getElem? (i := 217) rfl) rfl
theorem tw_3_218 : Cond.selects RX9 yX9_toss yX9_toss ∈ LW := lw_t3 (List.mem_of_getElem? (i := 218) rfl) rfl
theorem tw_3_219 : Cond.code yX9_toss cX9_toss 3 (some .int) ∈ LW := lw_t3 (List.mem_of_getElem? (i := 219) rfl) rfl
theorem tw_3_220 : Cond.methodLink RX9 344 yX1_caughtFailure ∈ LW := lw_t3 (List.mem_of_getElem? (i := 220) rfl) rfl
theorem tw_3_221 : Cond.static yX1_caughtFailure ∈ LW := lw_t3 (List.mem_of_getElem? (i := 221) rfl) rfl
theorem tw_3_223 : Cond.classLink RX1 27 "java/lang/UnsupportedOperationException" ∈ LW := lw_t3 (List.mem_of_getElem? (i := 223) rfl) rfl
theorem tw_3_224 : Cond.classLink RX1 32 "java/lang/IllegalStateException" ∈ LW := lw_t3 (List.mem_of_getElem? (i := 224) rfl) rfl
theorem tw_3_225 : Cond.classLink RX1 34 "java/lang/IllegalArgumentException" ∈ LW := lw_t3 (List.mem_of_getElem? (i := 225) rfl) rfl
theorem tw_3_226 : Cond.methodLink RX1 23 yX1_throwFailure ∈ LW := lw_t3 (List.mem_of_getElem? (i := 226) rfl) rfl
theorem tw_3_227 : Cond.static yX1_throwFailure ∈ LW := lw_t3 (List.mem_of_getElem? (i := 227) rfl) rfl
theorem tw_3_228 : Cond.code yX1_throwFailure cX1_throwFailure 2 none ∈ LW := lw_t3 (List.mem_of_getElem? (i := 228) rfl) rfl
theorem tw_3_229 : Cond.instantiable "java/lang/UnsupportedOperationException" 6 ∈ LW := lw_t3 (List.mem_of_getElem? (i := 229) rfl) rfl
theorem tw_3_237 : Cond.selects "java/lang/UnsupportedOperationException" (⟨"java/lang/Throwable", "fillInStackTrace", "(I)Ljava/lang/Throwable;"⟩ : MethodName) (⟨"java/lang/Throwable", "fillInStackTrace", "(I)Ljava/lang/Throwable;"⟩ : MethodName) ∈ LW := lw_t3 (List.mem_of_getElem? (i := 237) rfl) rfl
theorem tw_3_238 : Cond.selects "java/lang/UnsupportedOperationException" (⟨"java/lang/Throwable", "fillInStackTrace", "()Ljava/lang/Throwable;"⟩ : MethodName) (⟨"java/lang/Throwable", "fillInStackTrace", "()Ljava/lang/Throwable;"⟩ : MethodName) ∈ LW := lw_t3 (List.mem_of_getElem? (i := 238) rfl) rfl
theorem tw_3_239 : Cond.lays "java/lang/UnsupportedOperationException" "java/lang/Throwable" "cause" "Ljava/lang/Throwable;" ∈ LW := lw_t3 (List.mem_of_getElem? (i := 239) rfl) rfl
theorem tw_4_0 : Cond.lays "java/lang/Throwable" "java/lang/Throwable" "cause" "Ljava/lang/Throwable;" ∈ LW := lw_t4 (List.mem_of_getElem? (i := 0) rfl) rfl
theorem tw_4_1 : Cond.lays "java/lang/UnsupportedOperationException" "java/lang/Throwable" "stackTrace" "[Ljava/lang/StackTraceElement;" ∈ LW := lw_t4 (List.mem_of_getElem? (i := 1) rfl) rfl
theorem tw_4_2 : Cond.lays "java/lang/Throwable" "java/lang/Throwable" "stackTrace" "[Ljava/lang/StackTraceElement;" ∈ LW := lw_t4 (List.mem_of_getElem? (i := 2) rfl) rfl
theorem tw_4_3 : Cond.lays "java/lang/UnsupportedOperationException" "java/lang/Throwable" "suppressedExceptions" "Ljava/util/List;" ∈ LW := lw_t4 (List.mem_of_getElem? (i := 3) rfl) rfl
theorem tw_4_4 : Cond.lays "java/lang/Throwable" "java/lang/Throwable" "suppressedExceptions" "Ljava/util/List;" ∈ LW := lw_t4 (List.mem_of_getElem? (i := 4) rfl) rfl
theorem tw_4_5 : Cond.lays "java/lang/UnsupportedOperationException" "java/lang/Throwable" "detailMessage" "Ljava/lang/String;" ∈ LW := lw_t4 (List.mem_of_getElem? (i := 5) rfl) rfl
theorem tw_4_6 : Cond.lays "java/lang/Throwable" "java/lang/Throwable" "detailMessage" "Ljava/lang/String;" ∈ LW := lw_t4 (List.mem_of_getElem? (i := 6) rfl) rfl
theorem tw_4_7 : Cond.lays "java/lang/UnsupportedOperationException" "java/lang/Throwable" "backtrace" "Ljava/lang/Object;" ∈ LW := lw_t4 (List.mem_of_getElem? (i := 7) rfl) rfl
theorem tw_4_8 : Cond.lays "java/lang/Throwable" "java/lang/Throwable" "backtrace" "Ljava/lang/Object;" ∈ LW := lw_t4 (List.mem_of_getElem? (i := 8) rfl) rfl
theorem tw_4_9 : Cond.fieldLink "java/lang/Throwable" 198 "java/lang/Throwable" "backtrace" "Ljava/lang/Object;" ∈ LW := lw_t4 (List.mem_of_getElem? (i := 9) rfl) rfl
theorem tw_4_11 : Cond.instanceMethod (⟨"java/lang/Throwable", "<init>", "()V"⟩ : MethodName) ∈ LW := lw_t4 (List.mem_of_getElem? (i := 11) rfl) rfl
theorem tw_4_12 : Cond.code (⟨"java/lang/Throwable", "<init>", "()V"⟩ : MethodName) prog_21_method_1_code 1 none ∈ LW := lw_t4 (List.mem_of_getElem? (i := 12) rfl) rfl
theorem tw_4_13 : Cond.methodLink "java/lang/Throwable" 1 (⟨"java/lang/Object", "<init>", "()V"⟩ : MethodName) ∈ LW := lw_t4 (List.mem_of_getElem? (i := 13) rfl) rfl
theorem tw_4_14 : Cond.fieldLink "java/lang/Throwable" 13 "java/lang/Throwable" "UNASSIGNED_STACK" "[Ljava/lang/StackTraceElement;" ∈ LW := lw_t4 (List.mem_of_getElem? (i := 14) rfl) rfl
theorem tw_4_16 : Cond.fieldLink "java/lang/Throwable" 20 "java/lang/Throwable" "SUPPRESSED_SENTINEL" "Ljava/util/List;" ∈ LW := lw_t4 (List.mem_of_getElem? (i := 16) rfl) rfl
theorem tw_4_18 : Cond.methodLink "java/lang/Throwable" 27 (⟨"java/lang/Throwable", "fillInStackTrace", "()Ljava/lang/Throwable;"⟩ : MethodName) ∈ LW := lw_t4 (List.mem_of_getElem? (i := 18) rfl) rfl
theorem tw_4_19 : Cond.instanceMethod (⟨"java/lang/Throwable", "fillInStackTrace", "()Ljava/lang/Throwable;"⟩ : MethodName) ∈ LW := lw_t4 (List.mem_of_getElem? (i := 19) rfl) rfl
theorem tw_4_21 : Cond.selects "java/lang/IllegalArgumentException" (⟨"java/lang/Throwable", "fillInStackTrace", "()Ljava/lang/Throwable;"⟩ : MethodName) (⟨"java/lang/Throwable", "fillInStackTrace", "()Ljava/lang/Throwable;"⟩ : MethodName) ∈ LW := lw_t4 (List.mem_of_getElem? (i := 21) rfl) rfl
theorem tw_4_22 : Cond.selects "java/lang/IllegalStateException" (⟨"java/lang/Throwable", "fillInStackTrace", "()Ljava/lang/Throwable;"⟩ : MethodName) (⟨"java/lang/Throwable", "fillInStackTrace", "()Ljava/lang/Throwable;"⟩ : MethodName) ∈ LW := lw_t4 (List.mem_of_getElem? (i := 22) rfl) rfl
theorem tw_4_24 : Cond.methodLink "java/lang/Throwable" 202 (⟨"java/lang/Throwable", "fillInStackTrace", "(I)Ljava/lang/Throwable;"⟩ : MethodName) ∈ LW := lw_t4 (List.mem_of_getElem? (i := 24) rfl) rfl
theorem tw_4_26 : Cond.instanceMethod (⟨"java/lang/Throwable", "fillInStackTrace", "(I)Ljava/lang/Throwable;"⟩ : MethodName) ∈ LW := lw_t4 (List.mem_of_getElem? (i := 26) rfl) rfl
theorem tw_4_27 : Cond.instantiable "java/lang/Throwable" 6 ∈ LW := lw_t4 (List.mem_of_getElem? (i := 27) rfl) rfl
theorem tw_4_28 : Cond.native (⟨"java/lang/Throwable", "fillInStackTrace", "(I)Ljava/lang/Throwable;"⟩ : MethodName) ∈ LW := lw_t4 (List.mem_of_getElem? (i := 28) rfl) rfl
theorem tw_4_30 : Cond.methodLink RX1 38 (⟨"java/lang/UnsupportedOperationException", "<init>", "(Ljava/lang/String;)V"⟩ : MethodName) ∈ LW := lw_t4 (List.mem_of_getElem? (i := 30) rfl) rfl
theorem tw_4_31 : Cond.instanceMethod (⟨"java/lang/UnsupportedOperationException", "<init>", "(Ljava/lang/String;)V"⟩ : MethodName) ∈ LW := lw_t4 (List.mem_of_getElem? (i := 31) rfl) rfl
theorem tw_4_32 : Cond.code (⟨"java/lang/UnsupportedOperationException", "<init>", "(Ljava/lang/String;)V"⟩ : MethodName) prog_22_method_2_code 2 none ∈ LW := lw_t4 (List.mem_of_getElem? (i := 32) rfl) rfl
theorem tw_4_33 : Cond.methodLink "java/lang/UnsupportedOperationException" 7 (⟨"java/lang/RuntimeException", "<init>", "(Ljava/lang/String;)V"⟩ : MethodName) ∈ LW := lw_t4 (List.mem_of_getElem? (i := 33) rfl) rfl
theorem tw_4_34 : Cond.instanceMethod (⟨"java/lang/RuntimeException", "<init>", "(Ljava/lang/String;)V"⟩ : MethodName) ∈ LW := lw_t4 (List.mem_of_getElem? (i := 34) rfl) rfl
theorem tw_4_35 : Cond.code (⟨"java/lang/RuntimeException", "<init>", "(Ljava/lang/String;)V"⟩ : MethodName) prog_18_method_2_code 2 none ∈ LW := lw_t4 (List.mem_of_getElem? (i := 35) rfl) rfl
theorem tw_4_36 : Cond.methodLink "java/lang/RuntimeException" 7 (⟨"java/lang/Exception", "<init>", "(Ljava/lang/String;)V"⟩ : MethodName) ∈ LW := lw_t4 (List.mem_of_getElem? (i := 36) rfl) rfl
theorem tw_4_37 : Cond.instanceMethod (⟨"java/lang/Exception", "<init>", "(Ljava/lang/String;)V"⟩ : MethodName) ∈ LW := lw_t4 (List.mem_of_getElem? (i := 37) rfl) rfl
theorem tw_4_38 : Cond.code (⟨"java/lang/Exception", "<init>", "(Ljava/lang/String;)V"⟩ : MethodName) prog_13_method_2_code 2 none ∈ LW := lw_t4 (List.mem_of_getElem? (i := 38) rfl) rfl
theorem tw_4_39 : Cond.methodLink "java/lang/Exception" 7 (⟨"java/lang/Throwable", "<init>", "(Ljava/lang/String;)V"⟩ : MethodName) ∈ LW := lw_t4 (List.mem_of_getElem? (i := 39) rfl) rfl
theorem tw_4_40 : Cond.instanceMethod (⟨"java/lang/Throwable", "<init>", "(Ljava/lang/String;)V"⟩ : MethodName) ∈ LW := lw_t4 (List.mem_of_getElem? (i := 40) rfl) rfl
theorem tw_4_41 : Cond.code (⟨"java/lang/Throwable", "<init>", "(Ljava/lang/String;)V"⟩ : MethodName) prog_21_method_2_code 2 none ∈ LW := lw_t4 (List.mem_of_getElem? (i := 41) rfl) rfl
theorem tw_4_43 : Cond.fieldLink "java/lang/Throwable" 31 "java/lang/Throwable" "detailMessage" "Ljava/lang/String;" ∈ LW := lw_t4 (List.mem_of_getElem? (i := 43) rfl) rfl
theorem tw_4_44 : Cond.fieldLink "java/lang/Throwable" 7 "java/lang/Throwable" "cause" "Ljava/lang/Throwable;" ∈ LW := lw_t4 (List.mem_of_getElem? (i := 44) rfl) rfl
theorem tw_4_45 : Cond.fieldLink "java/lang/Throwable" 17 "java/lang/Throwable" "stackTrace" "[Ljava/lang/StackTraceElement;" ∈ LW := lw_t4 (List.mem_of_getElem? (i := 45) rfl) rfl
theorem tw_4_46 : Cond.fieldLink "java/lang/Throwable" 24 "java/lang/Throwable" "suppressedExceptions" "Ljava/util/List;" ∈ LW := lw_t4 (List.mem_of_getElem? (i := 46) rfl) rfl
theorem tw_4_51 : Cond.lays "java/lang/UnsupportedOperationException" "java/lang/Throwable" "depth" "I" ∈ LW := lw_t4 (List.mem_of_getElem? (i := 51) rfl) rfl
theorem tw_4_56 : Cond.methodLink RX1 41 yX1_isPainted ∈ LW := lw_t4 (List.mem_of_getElem? (i := 56) rfl) rfl
theorem tw_4_57 : Cond.instantiable "java/lang/IllegalStateException" 6 ∈ LW := lw_t4 (List.mem_of_getElem? (i := 57) rfl) rfl
theorem tw_4_59 : Cond.selects "java/lang/IllegalStateException" (⟨"java/lang/Throwable", "fillInStackTrace", "(I)Ljava/lang/Throwable;"⟩ : MethodName) (⟨"java/lang/Throwable", "fillInStackTrace", "(I)Ljava/lang/Throwable;"⟩ : MethodName) ∈ LW := lw_t4 (List.mem_of_getElem? (i := 59) rfl) rfl
theorem tw_4_60 : Cond.lays "java/lang/IllegalStateException" "java/lang/Throwable" "cause" "Ljava/lang/Throwable;" ∈ LW := lw_t4 (List.mem_of_getElem? (i := 60) rfl) rfl
theorem tw_4_61 : Cond.lays "java/lang/IllegalStateException" "java/lang/Throwable" "stackTrace" "[Ljava/lang/StackTraceElement;" ∈ LW := lw_t4 (List.mem_of_getElem? (i := 61) rfl) rfl
theorem tw_4_62 : Cond.lays "java/lang/IllegalStateException" "java/lang/Throwable" "suppressedExceptions" "Ljava/util/List;" ∈ LW := lw_t4 (List.mem_of_getElem? (i := 62) rfl) rfl
theorem tw_4_63 : Cond.lays "java/lang/IllegalStateException" "java/lang/Throwable" "detailMessage" "Ljava/lang/String;" ∈ LW := lw_t4 (List.mem_of_getElem? (i := 63) rfl) rfl
theorem tw_4_64 : Cond.lays "java/lang/IllegalStateException" "java/lang/Throwable" "backtrace" "Ljava/lang/Object;" ∈ LW := lw_t4 (List.mem_of_getElem? (i := 64) rfl) rfl
theorem tw_4_66 : Cond.methodLink RX1 47 (⟨"java/lang/IllegalStateException", "<init>", "(Ljava/lang/String;)V"⟩ : MethodName) ∈ LW := lw_t4 (List.mem_of_getElem? (i := 66) rfl) rfl
theorem tw_4_67 : Cond.instanceMethod (⟨"java/lang/IllegalStateException", "<init>", "(Ljava/lang/String;)V"⟩ : MethodName) ∈ LW := lw_t4 (List.mem_of_getElem? (i := 67) rfl) rfl
theorem tw_4_68 : Cond.code (⟨"java/lang/IllegalStateException", "<init>", "(Ljava/lang/String;)V"⟩ : MethodName) prog_15_method_2_code 2 none ∈ LW := lw_t4 (List.mem_of_getElem? (i := 68) rfl) rfl
theorem tw_4_69 : Cond.methodLink "java/lang/IllegalStateException" 7 (⟨"java/lang/RuntimeException", "<init>", "(Ljava/lang/String;)V"⟩ : MethodName) ∈ LW := lw_t4 (List.mem_of_getElem? (i := 69) rfl) rfl
theorem tw_4_70 : Cond.lays "java/lang/IllegalStateException" "java/lang/Throwable" "depth" "I" ∈ LW := lw_t4 (List.mem_of_getElem? (i := 70) rfl) rfl
theorem tw_4_72 : Cond.instantiable "java/lang/IllegalArgumentException" 6 ∈ LW := lw_t4 (List.mem_of_getElem? (i := 72) rfl) rfl
theorem tw_4_74 : Cond.selects "java/lang/IllegalArgumentException" (⟨"java/lang/Throwable", "fillInStackTrace", "(I)Ljava/lang/Throwable;"⟩ : MethodName) (⟨"java/lang/Throwable", "fillInStackTrace", "(I)Ljava/lang/Throwable;"⟩ : MethodName) ∈ LW := lw_t4 (List.mem_of_getElem? (i := 74) rfl) rfl
theorem tw_4_75 : Cond.lays "java/lang/IllegalArgumentException" "java/lang/Throwable" "cause" "Ljava/lang/Throwable;" ∈ LW := lw_t4 (List.mem_of_getElem? (i := 75) rfl) rfl
theorem tw_4_76 : Cond.lays "java/lang/IllegalArgumentException" "java/lang/Throwable" "stackTrace" "[Ljava/lang/StackTraceElement;" ∈ LW := lw_t4 (List.mem_of_getElem? (i := 76) rfl) rfl
theorem tw_4_77 : Cond.lays "java/lang/IllegalArgumentException" "java/lang/Throwable" "suppressedExceptions" "Ljava/util/List;" ∈ LW := lw_t4 (List.mem_of_getElem? (i := 77) rfl) rfl
theorem tw_4_78 : Cond.lays "java/lang/IllegalArgumentException" "java/lang/Throwable" "detailMessage" "Ljava/lang/String;" ∈ LW := lw_t4 (List.mem_of_getElem? (i := 78) rfl) rfl
theorem tw_4_79 : Cond.lays "java/lang/IllegalArgumentException" "java/lang/Throwable" "backtrace" "Ljava/lang/Object;" ∈ LW := lw_t4 (List.mem_of_getElem? (i := 79) rfl) rfl
theorem tw_4_81 : Cond.methodLink RX1 50 (⟨"java/lang/IllegalArgumentException", "<init>", "(Ljava/lang/String;)V"⟩ : MethodName) ∈ LW := lw_t4 (List.mem_of_getElem? (i := 81) rfl) rfl
theorem tw_4_82 : Cond.instanceMethod (⟨"java/lang/IllegalArgumentException", "<init>", "(Ljava/lang/String;)V"⟩ : MethodName) ∈ LW := lw_t4 (List.mem_of_getElem? (i := 82) rfl) rfl
theorem tw_4_83 : Cond.code (⟨"java/lang/IllegalArgumentException", "<init>", "(Ljava/lang/String;)V"⟩ : MethodName) prog_14_method_2_code 2 none ∈ LW := lw_t4 (List.mem_of_getElem? (i := 83) rfl) rfl
theorem tw_4_84 : Cond.methodLink "java/lang/IllegalArgumentException" 7 (⟨"java/lang/RuntimeException", "<init>", "(Ljava/lang/String;)V"⟩ : MethodName) ∈ LW := lw_t4 (List.mem_of_getElem? (i := 84) rfl) rfl
theorem tw_4_85 : Cond.lays "java/lang/IllegalArgumentException" "java/lang/Throwable" "depth" "I" ∈ LW := lw_t4 (List.mem_of_getElem? (i := 85) rfl) rfl
theorem tw_4_87 : Cond.methodLink RX1 29 yX1_price ∈ LW := lw_t4 (List.mem_of_getElem? (i := 87) rfl) rfl
theorem tw_4_88 : Cond.methodLink RL 179 yL_element ∈ LW := lw_t4 (List.mem_of_getElem? (i := 88) rfl) rfl
theorem tw_4_89 : Cond.static yL_element ∈ LW := lw_t4 (List.mem_of_getElem? (i := 89) rfl) rfl
theorem tw_4_91 : Cond.classLink RL 13 "java/lang/IllegalArgumentException" ∈ LW := lw_t4 (List.mem_of_getElem? (i := 91) rfl) rfl
theorem tw_4_92 : Cond.classLink RL 15 "java/lang/IllegalStateException" ∈ LW := lw_t4 (List.mem_of_getElem? (i := 92) rfl) rfl
theorem tw_4_93 : Cond.methodLink RL 7 yX9_element ∈ LW := lw_t4 (List.mem_of_getElem? (i := 93) rfl) rfl
theorem tw_4_94 : Cond.instanceMethod yX9_element ∈ LW := lw_t4 (List.mem_of_getElem? (i := 94) rfl) rfl
theorem tw_4_95 : Cond.selects RX9 yX9_element yX9_element ∈ LW := lw_t4 (List.mem_of_getElem? (i := 95) rfl) rfl
theorem tw_4_96 : Cond.code yX9_element cX9_element 4 (some .long) ∈ LW := lw_t4 (List.mem_of_getElem? (i := 96) rfl) rfl
theorem tw_4_97 : Cond.classLink RX9 312 "java/lang/IllegalArgumentException" ∈ LW := lw_t4 (List.mem_of_getElem? (i := 97) rfl) rfl
theorem tw_4_99 : Cond.methodLink RX9 316 (⟨"java/lang/IllegalArgumentException", "<init>", "(Ljava/lang/String;)V"⟩ : MethodName) ∈ LW := lw_t4 (List.mem_of_getElem? (i := 99) rfl) rfl
theorem tw_4_100 : Cond.classLink RX9 319 "java/lang/IllegalStateException" ∈ LW := lw_t4 (List.mem_of_getElem? (i := 100) rfl) rfl
theorem tw_4_102 : Cond.methodLink RX9 323 (⟨"java/lang/IllegalStateException", "<init>", "(Ljava/lang/String;)V"⟩ : MethodName) ∈ LW := lw_t4 (List.mem_of_getElem? (i := 102) rfl) rfl
theorem tw_4_104 : Cond.classLink RL 18 RX10 ∈ LW := lw_t4 (List.mem_of_getElem? (i := 104) rfl) rfl
theorem tw_4_105 : Cond.instantiable RX10 19 ∈ LW := lw_t4 (List.mem_of_getElem? (i := 105) rfl) rfl
theorem tw_4_106 : Cond.methodLink RL 20 yX10_init ∈ LW := lw_t4 (List.mem_of_getElem? (i := 106) rfl) rfl
theorem tw_4_107 : Cond.instanceMethod yX10_init ∈ LW := lw_t4 (List.mem_of_getElem? (i := 107) rfl) rfl
theorem tw_4_108 : Cond.code yX10_init cX10_init 1 none ∈ LW := lw_t4 (List.mem_of_getElem? (i := 108) rfl) rfl
theorem tw_4_109 : Cond.methodLink RX10 1 (⟨"java/lang/Object", "<init>", "()V"⟩ : MethodName) ∈ LW := lw_t4 (List.mem_of_getElem? (i := 109) rfl) rfl
theorem tw_4_110 : Cond.fieldLink RX10 9 "BrickedUpAsBlindModel" "s" "[I" ∈ LW := lw_t4 (List.mem_of_getElem? (i := 110) rfl) rfl
theorem tw_4_111 : Cond.fieldLink RX10 13 "BrickedUpAsBlindModel" "m" "[I" ∈ LW := lw_t4 (List.mem_of_getElem? (i := 111) rfl) rfl
theorem tw_4_112 : Cond.fieldLink RX10 16 "BrickedUpAsBlindModel" "image" "[I" ∈ LW := lw_t4 (List.mem_of_getElem? (i := 112) rfl) rfl
theorem tw_4_113 : Cond.fieldLink RX10 19 "BrickedUpAsBlindModel" "was" "[I" ∈ LW := lw_t4 (List.mem_of_getElem? (i := 113) rfl) rfl
theorem tw_4_114 : Cond.fieldLink RX10 241 "BrickedUpAsBlindModel" "hasImage" "Z" ∈ LW := lw_t4 (List.mem_of_getElem? (i := 114) rfl) rfl
theorem tw_4_115 : Cond.fieldLink RX10 108 "BrickedUpAsBlindModel" "place" "I" ∈ LW := lw_t4 (List.mem_of_getElem? (i := 115) rfl) rfl
theorem tw_4_116 : Cond.fieldLink RX10 115 "BrickedUpAsBlindModel" "rowAt" "I" ∈ LW := lw_t4 (List.mem_of_getElem? (i := 116) rfl) rfl
theorem tw_4_117 : Cond.fieldLink RX10 112 "BrickedUpAsBlindModel" "rowEnd" "I" ∈ LW := lw_t4 (List.mem_of_getElem? (i := 117) rfl) rfl
theorem tw_4_118 : Cond.fieldLink RX10 22 "BrickedUpAsBlindModel" "numbers" "[I" ∈ LW := lw_t4 (List.mem_of_getElem? (i := 118) rfl) rfl
theorem tw_4_119 : Cond.fieldLink RX10 25 "BrickedUpAsBlindModel" "pattern" "[I" ∈ LW := lw_t4 (List.mem_of_getElem? (i := 119) rfl) rfl
theorem tw_4_120 : Cond.fieldLink RX10 216 "BrickedUpAsBlindModel" "gameFirst" "I" ∈ LW := lw_t4 (List.mem_of_getElem? (i := 120) rfl) rfl
theorem tw_4_121 : Cond.fieldLink RX10 232 "BrickedUpAsBlindModel" "seed" "I" ∈ LW := lw_t4 (List.mem_of_getElem? (i := 121) rfl) rfl
theorem tw_4_122 : Cond.fieldLink RX10 28 "BrickedUpAsBlindModel" "kept" "[I" ∈ LW := lw_t4 (List.mem_of_getElem? (i := 122) rfl) rfl
theorem tw_4_123 : Cond.fieldLink RX10 31 "BrickedUpAsBlindModel" "keptKind" "[I" ∈ LW := lw_t4 (List.mem_of_getElem? (i := 123) rfl) rfl
theorem tw_4_124 : Cond.fieldLink RX10 34 "BrickedUpAsBlindModel" "keptFigure" "[I" ∈ LW := lw_t4 (List.mem_of_getElem? (i := 124) rfl) rfl
theorem tw_4_125 : Cond.fieldLink RX10 37 "BrickedUpAsBlindModel" "sort" "[I" ∈ LW := lw_t4 (List.mem_of_getElem? (i := 125) rfl) rfl
theorem tw_4_126 : Cond.fieldLink RX10 40 "BrickedUpAsBlindModel" "size" "[I" ∈ LW := lw_t4 (List.mem_of_getElem? (i := 126) rfl) rfl
theorem tw_4_127 : Cond.fieldLink RX10 43 "BrickedUpAsBlindModel" "element" "[I" ∈ LW := lw_t4 (List.mem_of_getElem? (i := 127) rfl) rfl
theorem tw_4_128 : Cond.fieldLink RX10 245 "BrickedUpAsBlindModel" "thrown" "I" ∈ LW := lw_t4 (List.mem_of_getElem? (i := 128) rfl) rfl
theorem tw_4_129 : Cond.laysFinal "BrickedUpAsBlindModel" "BrickedUpAsBlindModel" "s" "[I" ∈ LW := lw_t4 (List.mem_of_getElem? (i := 129) rfl) rfl
theorem tw_4_131 : Cond.laysFinal "BrickedUpAsBlindModel" "BrickedUpAsBlindModel" "m" "[I" ∈ LW := lw_t4 (List.mem_of_getElem? (i := 131) rfl) rfl
theorem tw_4_133 : Cond.laysFinal "BrickedUpAsBlindModel" "BrickedUpAsBlindModel" "image" "[I" ∈ LW := lw_t4 (List.mem_of_getElem? (i := 133) rfl) rfl
theorem tw_4_135 : Cond.laysFinal "BrickedUpAsBlindModel" "BrickedUpAsBlindModel" "was" "[I" ∈ LW := lw_t4 (List.mem_of_getElem? (i := 135) rfl) rfl
theorem tw_4_137 : Cond.lays "BrickedUpAsBlindModel" "BrickedUpAsBlindModel" "hasImage" "Z" ∈ LW := lw_t4 (List.mem_of_getElem? (i := 137) rfl) rfl
theorem tw_4_139 : Cond.lays "BrickedUpAsBlindModel" "BrickedUpAsBlindModel" "place" "I" ∈ LW := lw_t4 (List.mem_of_getElem? (i := 139) rfl) rfl
theorem tw_4_141 : Cond.lays "BrickedUpAsBlindModel" "BrickedUpAsBlindModel" "rowAt" "I" ∈ LW := lw_t4 (List.mem_of_getElem? (i := 141) rfl) rfl
theorem tw_4_143 : Cond.lays "BrickedUpAsBlindModel" "BrickedUpAsBlindModel" "rowEnd" "I" ∈ LW := lw_t4 (List.mem_of_getElem? (i := 143) rfl) rfl
theorem tw_4_145 : Cond.laysFinal "BrickedUpAsBlindModel" "BrickedUpAsBlindModel" "numbers" "[I" ∈ LW := lw_t4 (List.mem_of_getElem? (i := 145) rfl) rfl
theorem tw_4_147 : Cond.laysFinal "BrickedUpAsBlindModel" "BrickedUpAsBlindModel" "pattern" "[I" ∈ LW := lw_t4 (List.mem_of_getElem? (i := 147) rfl) rfl
theorem tw_4_149 : Cond.lays "BrickedUpAsBlindModel" "BrickedUpAsBlindModel" "gameFirst" "I" ∈ LW := lw_t4 (List.mem_of_getElem? (i := 149) rfl) rfl
theorem tw_4_151 : Cond.lays "BrickedUpAsBlindModel" "BrickedUpAsBlindModel" "seed" "I" ∈ LW := lw_t4 (List.mem_of_getElem? (i := 151) rfl) rfl
theorem tw_4_153 : Cond.laysFinal "BrickedUpAsBlindModel" "BrickedUpAsBlindModel" "kept" "[I" ∈ LW := lw_t4 (List.mem_of_getElem? (i := 153) rfl) rfl
theorem tw_4_155 : Cond.laysFinal "BrickedUpAsBlindModel" "BrickedUpAsBlindModel" "keptKind" "[I" ∈ LW := lw_t4 (List.mem_of_getElem? (i := 155) rfl) rfl
theorem tw_4_157 : Cond.laysFinal "BrickedUpAsBlindModel" "BrickedUpAsBlindModel" "keptFigure" "[I" ∈ LW := lw_t4 (List.mem_of_getElem? (i := 157) rfl) rfl
theorem tw_4_159 : Cond.laysFinal "BrickedUpAsBlindModel" "BrickedUpAsBlindModel" "sort" "[I" ∈ LW := lw_t4 (List.mem_of_getElem? (i := 159) rfl) rfl
theorem tw_4_161 : Cond.laysFinal "BrickedUpAsBlindModel" "BrickedUpAsBlindModel" "size" "[I" ∈ LW := lw_t4 (List.mem_of_getElem? (i := 161) rfl) rfl
theorem tw_4_163 : Cond.laysFinal "BrickedUpAsBlindModel" "BrickedUpAsBlindModel" "element" "[I" ∈ LW := lw_t4 (List.mem_of_getElem? (i := 163) rfl) rfl
theorem tw_4_165 : Cond.lays "BrickedUpAsBlindModel" "BrickedUpAsBlindModel" "thrown" "I" ∈ LW := lw_t4 (List.mem_of_getElem? (i := 165) rfl) rfl
theorem tw_4_168 : Cond.methodLink RL 25 yX10_house ∈ LW := lw_t4 (List.mem_of_getElem? (i := 168) rfl) rfl
theorem tw_4_169 : Cond.instanceMethod yX10_house ∈ LW := lw_t4 (List.mem_of_getElem? (i := 169) rfl) rfl
theorem tw_4_170 : Cond.selects RX10 yX10_house yX10_house ∈ LW := lw_t4 (List.mem_of_getElem? (i := 170) rfl) rfl
theorem tw_4_171 : Cond.code yX10_house cX10_house 8 (some .int) ∈ LW := lw_t4 (List.mem_of_getElem? (i := 171) rfl) rfl
theorem tw_4_172 : Cond.methodLink RX10 148 yX10_wrongRow ∈ LW := lw_t4 (List.mem_of_getElem? (i := 172) rfl) rfl
theorem tw_4_174 : Cond.instanceMethod yX10_wrongRow ∈ LW := lw_t4 (List.mem_of_getElem? (i := 174) rfl) rfl
theorem tw_4_175 : Cond.code yX10_wrongRow cX10_wrongRow 3 (some .int) ∈ LW := lw_t4 (List.mem_of_getElem? (i := 175) rfl) rfl
theorem tw_4_176 : Cond.methodLink RX10 248 yX10_isShelf ∈ LW := lw_t4 (List.mem_of_getElem? (i := 176) rfl) rfl
theorem tw_4_177 : Cond.static yX10_isShelf ∈ LW := lw_t4 (List.mem_of_getElem? (i := 177) rfl) rfl
theorem tw_4_178 : Cond.code yX10_isShelf cX10_isShelf 1 (some .boolean) ∈ LW := lw_t4 (List.mem_of_getElem? (i := 178) rfl) rfl
theorem tw_4_179 : Cond.methodLink RX10 46 yX10_isIn ∈ LW := lw_t4 (List.mem_of_getElem? (i := 179) rfl) rfl
theorem tw_4_180 : Cond.static yX10_isIn ∈ LW := lw_t4 (List.mem_of_getElem? (i := 180) rfl) rfl
theorem tw_4_181 : Cond.code yX10_isIn cX10_isIn 3 (some .boolean) ∈ LW := lw_t4 (List.mem_of_getElem? (i := 181) rfl) rfl
theorem tw_4_182 : Cond.methodLink RX10 151 yX10_readsStatement ∈ LW := lw_t4 (List.mem_of_getElem? (i := 182) rfl) rfl
theorem tw_4_184 : Cond.instanceMethod yX10_readsStatement ∈ LW := lw_t4 (List.mem_of_getElem? (i := 184) rfl) rfl
theorem tw_4_185 : Cond.code yX10_readsStatement cX10_readsStatement 3 (some .boolean) ∈ LW := lw_t4 (List.mem_of_getElem? (i := 185) rfl) rfl
theorem tw_4_186 : Cond.methodLink RX10 118 yX10_here ∈ LW := lw_t4 (List.mem_of_getElem? (i := 186) rfl) rfl
theorem tw_4_188 : Cond.instanceMethod yX10_here ∈ LW := lw_t4 (List.mem_of_getElem? (i := 188) rfl) rfl
theorem tw_4_189 : Cond.code yX10_here cX10_here 1 (some .int) ∈ LW := lw_t4 (List.mem_of_getElem? (i := 189) rfl) rfl
theorem tw_4_190 : Cond.methodLink RX10 122 yX10_readsNumber ∈ LW := lw_t4 (List.mem_of_getElem? (i := 190) rfl) rfl
theorem tw_4_192 : Cond.instanceMethod yX10_readsNumber ∈ LW := lw_t4 (List.mem_of_getElem? (i := 192) rfl) rfl
theorem tw_4_193 : Cond.code yX10_readsNumber cX10_readsNumber 4 (some .boolean) ∈ LW := lw_t4 (List.mem_of_getElem? (i := 193) rfl) rfl
theorem tw_4_194 : Cond.methodLink RX10 155 yX10_copies ∈ LW := lw_t4 (List.mem_of_getElem? (i := 194) rfl) rfl
theorem tw_4_195 : Cond.static yX10_copies ∈ LW := lw_t4 (List.mem_of_getElem? (i := 195) rfl) rfl
theorem tw_4_196 : Cond.code yX10_copies cX10_copies 3 none ∈ LW := lw_t4 (List.mem_of_getElem? (i := 196) rfl) rfl
theorem tw_4_197 : Cond.methodLink RX10 159 yX10_isDone ∈ LW := lw_t4 (List.mem_of_getElem? (i := 197) rfl) rfl
theorem tw_4_199 : Cond.instanceMethod yX10_isDone ∈ LW := lw_t4 (List.mem_of_getElem? (i := 199) rfl) rfl
theorem tw_4_200 : Cond.code yX10_isDone cX10_isDone 4 (some .boolean) ∈ LW := lw_t4 (List.mem_of_getElem? (i := 200) rfl) rfl
theorem tw_4_201 : Cond.methodLink RX10 130 yX10_isRoom ∈ LW := lw_t4 (List.mem_of_getElem? (i := 201) rfl) rfl
theorem tw_4_202 : Cond.static yX10_isRoom ∈ LW := lw_t4 (List.mem_of_getElem? (i := 202) rfl) rfl
theorem tw_4_203 : Cond.code yX10_isRoom cX10_isRoom 1 (some .boolean) ∈ LW := lw_t4 (List.mem_of_getElem? (i := 203) rfl) rfl
theorem tw_4_204 : Cond.methodLink RX10 134 yX10_isHour ∈ LW := lw_t4 (List.mem_of_getElem? (i := 204) rfl) rfl
theorem tw_4_205 : Cond.static yX10_isHour ∈ LW := lw_t4 (List.mem_of_getElem? (i := 205) rfl) rfl
theorem tw_4_206 : Cond.code yX10_isHour cX10_isHour 1 (some .boolean) ∈ LW := lw_t4 (List.mem_of_getElem? (i := 206) rfl) rfl
theorem tw_4_207 : Cond.methodLink RX10 137 yX10_adds ∈ LW := lw_t4 (List.mem_of_getElem? (i := 207) rfl) rfl
theorem tw_4_209 : Cond.instanceMethod yX10_adds ∈ LW := lw_t4 (List.mem_of_getElem? (i := 209) rfl) rfl
theorem tw_4_210 : Cond.code yX10_adds cX10_adds 6 none ∈ LW := lw_t4 (List.mem_of_getElem? (i := 210) rfl) rfl
theorem tw_4_211 : Cond.methodLink RX10 57 yX10_of ∈ LW := lw_t4 (List.mem_of_getElem? (i := 211) rfl) rfl
theorem tw_4_212 : Cond.static yX10_of ∈ LW := lw_t4 (List.mem_of_getElem? (i := 212) rfl) rfl
theorem tw_4_213 : Cond.code yX10_of cX10_of 2 (some .int) ∈ LW := lw_t4 (List.mem_of_getElem? (i := 213) rfl) rfl
theorem tw_4_214 : Cond.methodLink RX10 141 yX10_isWindow ∈ LW := lw_t4 (List.mem_of_getElem? (i := 214) rfl) rfl
theorem tw_4_216 : Cond.instanceMethod yX10_isWindow ∈ LW := lw_t4 (List.mem_of_getElem? (i := 216) rfl) rfl
theorem tw_4_217 : Cond.code yX10_isWindow cX10_isWindow 2 (some .boolean) ∈ LW := lw_t4 (List.mem_of_getElem? (i := 217) rfl) rfl
theorem tw_4_218 : Cond.methodLink RX10 144 yX10_yearsOn ∈ LW := lw_t4 (List.mem_of_getElem? (i := 218) rfl) rfl
theorem tw_4_220 : Cond.instanceMethod yX10_yearsOn ∈ LW := lw_t4 (List.mem_of_getElem? (i := 220) rfl) rfl
theorem tw_4_221 : Cond.code yX10_yearsOn cX10_yearsOn 3 none ∈ LW := lw_t4 (List.mem_of_getElem? (i := 221) rfl) rfl
theorem tw_4_222 : Cond.methodLink RX10 126 yX10_year ∈ LW := lw_t4 (List.mem_of_getElem? (i := 222) rfl) rfl
theorem tw_4_223 : Cond.static yX10_year ∈ LW := lw_t4 (List.mem_of_getElem? (i := 223) rfl) rfl
theorem tw_4_224 : Cond.code yX10_year cX10_year 1 none ∈ LW := lw_t4 (List.mem_of_getElem? (i := 224) rfl) rfl
theorem tw_4_226 : Cond.methodLink RX10 100 yX10_duesOf ∈ LW := lw_t4 (List.mem_of_getElem? (i := 226) rfl) rfl
theorem tw_4_227 : Cond.static yX10_duesOf ∈ LW := lw_t4 (List.mem_of_getElem? (i := 227) rfl) rfl
theorem tw_4_228 : Cond.code yX10_duesOf cX10_duesOf 3 (some .int) ∈ LW := lw_t4 (List.mem_of_getElem? (i := 228) rfl) rfl
theorem tw_4_229 : Cond.methodLink RX10 63 yX10_isOpen ∈ LW := lw_t4 (List.mem_of_getElem? (i := 229) rfl) rfl
theorem tw_4_230 : Cond.static yX10_isOpen ∈ LW := lw_t4 (List.mem_of_getElem? (i := 230) rfl) rfl
theorem tw_4_231 : Cond.code yX10_isOpen cX10_isOpen 2 (some .boolean) ∈ LW := lw_t4 (List.mem_of_getElem? (i := 231) rfl) rfl
theorem tw_4_232 : Cond.methodLink RX10 92 yX10_dueBy ∈ LW := lw_t4 (List.mem_of_getElem? (i := 232) rfl) rfl
theorem tw_4_233 : Cond.static yX10_dueBy ∈ LW := lw_t4 (List.mem_of_getElem? (i := 233) rfl) rfl
theorem tw_4_234 : Cond.code yX10_dueBy cX10_dueBy 2 (some .int) ∈ LW := lw_t4 (List.mem_of_getElem? (i := 234) rfl) rfl
theorem tw_4_235 : Cond.methodLink RX10 104 yX10_movesDue ∈ LW := lw_t4 (List.mem_of_getElem? (i := 235) rfl) rfl
theorem tw_4_236 : Cond.static yX10_movesDue ∈ LW := lw_t4 (List.mem_of_getElem? (i := 236) rfl) rfl
theorem tw_4_237 : Cond.code yX10_movesDue cX10_movesDue 4 (some .int) ∈ LW := lw_t4 (List.mem_of_getElem? (i := 237) rfl) rfl
theorem tw_4_238 : Cond.methodLink RX10 95 yX10_moves ∈ LW := lw_t4 (List.mem_of_getElem? (i := 238) rfl) rfl
theorem tw_4_239 : Cond.static yX10_moves ∈ LW := lw_t4 (List.mem_of_getElem? (i := 239) rfl) rfl
theorem tw_5_0 : Cond.code yX10_moves cX10_moves 3 (some .boolean) ∈ LW := lw_t5 (List.mem_of_getElem? (i := 0) rfl) rfl
theorem tw_5_1 : Cond.methodLink RX10 67 yX10_farAt ∈ LW := lw_t5 (List.mem_of_getElem? (i := 1) rfl) rfl
theorem tw_5_2 : Cond.static yX10_farAt ∈ LW := lw_t5 (List.mem_of_getElem? (i := 2) rfl) rfl
theorem tw_5_3 : Cond.code yX10_farAt cX10_farAt 3 (some .int) ∈ LW := lw_t5 (List.mem_of_getElem? (i := 3) rfl) rfl
theorem tw_5_4 : Cond.methodLink RX10 60 yX10_apart ∈ LW := lw_t5 (List.mem_of_getElem? (i := 4) rfl) rfl
theorem tw_5_5 : Cond.static yX10_apart ∈ LW := lw_t5 (List.mem_of_getElem? (i := 5) rfl) rfl
theorem tw_5_6 : Cond.code yX10_apart cX10_apart 3 (some .int) ∈ LW := lw_t5 (List.mem_of_getElem? (i := 6) rfl) rfl
theorem tw_5_7 : Cond.methodLink RX10 50 yX10_least ∈ LW := lw_t5 (List.mem_of_getElem? (i := 7) rfl) rfl
theorem tw_5_8 : Cond.static yX10_least ∈ LW := lw_t5 (List.mem_of_getElem? (i := 8) rfl) rfl
theorem tw_5_9 : Cond.code yX10_least cX10_least 2 (some .int) ∈ LW := lw_t5 (List.mem_of_getElem? (i := 9) rfl) rfl
theorem tw_5_10 : Cond.methodLink RX10 75 yX10_movesBy ∈ LW := lw_t5 (List.mem_of_getElem? (i := 10) rfl) rfl
theorem tw_5_11 : Cond.static yX10_movesBy ∈ LW := lw_t5 (List.mem_of_getElem? (i := 11) rfl) rfl
theorem tw_5_12 : Cond.code yX10_movesBy cX10_movesBy 4 (some .boolean) ∈ LW := lw_t5 (List.mem_of_getElem? (i := 12) rfl) rfl
theorem tw_5_13 : Cond.methodLink RL 30 yX10_window ∈ LW := lw_t5 (List.mem_of_getElem? (i := 13) rfl) rfl
theorem tw_5_14 : Cond.instanceMethod yX10_window ∈ LW := lw_t5 (List.mem_of_getElem? (i := 14) rfl) rfl
theorem tw_5_15 : Cond.selects RX10 yX10_window yX10_window ∈ LW := lw_t5 (List.mem_of_getElem? (i := 15) rfl) rfl
theorem tw_5_16 : Cond.code yX10_window cX10_window 3 (some .int) ∈ LW := lw_t5 (List.mem_of_getElem? (i := 16) rfl) rfl
theorem tw_5_17 : Cond.methodLink RL 35 yX10_at ∈ LW := lw_t5 (List.mem_of_getElem? (i := 17) rfl) rfl
theorem tw_5_18 : Cond.instanceMethod yX10_at ∈ LW := lw_t5 (List.mem_of_getElem? (i := 18) rfl) rfl
theorem tw_5_19 : Cond.selects RX10 yX10_at yX10_at ∈ LW := lw_t5 (List.mem_of_getElem? (i := 19) rfl) rfl
theorem tw_5_20 : Cond.code yX10_at cX10_at 4 (some .int) ∈ LW := lw_t5 (List.mem_of_getElem? (i := 20) rfl) rfl
theorem tw_5_21 : Cond.methodLink RX10 83 yX10_shines ∈ LW := lw_t5 (List.mem_of_getElem? (i := 21) rfl) rfl
theorem tw_5_22 : Cond.static yX10_shines ∈ LW := lw_t5 (List.mem_of_getElem? (i := 22) rfl) rfl
theorem tw_5_23 : Cond.code yX10_shines cX10_shines 3 (some .int) ∈ LW := lw_t5 (List.mem_of_getElem? (i := 23) rfl) rfl
theorem tw_5_24 : Cond.methodLink RX10 71 yX10_shinesBy ∈ LW := lw_t5 (List.mem_of_getElem? (i := 24) rfl) rfl
theorem tw_5_25 : Cond.static yX10_shinesBy ∈ LW := lw_t5 (List.mem_of_getElem? (i := 25) rfl) rfl
theorem tw_5_26 : Cond.code yX10_shinesBy cX10_shinesBy 4 (some .int) ∈ LW := lw_t5 (List.mem_of_getElem? (i := 26) rfl) rfl
theorem tw_5_27 : Cond.methodLink RX10 162 yX10_seems ∈ LW := lw_t5 (List.mem_of_getElem? (i := 27) rfl) rfl
theorem tw_5_28 : Cond.static yX10_seems ∈ LW := lw_t5 (List.mem_of_getElem? (i := 28) rfl) rfl
theorem tw_5_29 : Cond.code yX10_seems cX10_seems 3 (some .int) ∈ LW := lw_t5 (List.mem_of_getElem? (i := 29) rfl) rfl
theorem tw_5_30 : Cond.methodLink RX10 79 yX10_seemsBy ∈ LW := lw_t5 (List.mem_of_getElem? (i := 30) rfl) rfl
theorem tw_5_31 : Cond.static yX10_seemsBy ∈ LW := lw_t5 (List.mem_of_getElem? (i := 31) rfl) rfl
theorem tw_5_32 : Cond.code yX10_seemsBy cX10_seemsBy 5 (some .int) ∈ LW := lw_t5 (List.mem_of_getElem? (i := 32) rfl) rfl
theorem tw_5_33 : Cond.methodLink RX10 54 yX10_most ∈ LW := lw_t5 (List.mem_of_getElem? (i := 33) rfl) rfl
theorem tw_5_34 : Cond.static yX10_most ∈ LW := lw_t5 (List.mem_of_getElem? (i := 34) rfl) rfl
theorem tw_5_35 : Cond.code yX10_most cX10_most 2 (some .int) ∈ LW := lw_t5 (List.mem_of_getElem? (i := 35) rfl) rfl
theorem tw_5_36 : Cond.methodLink RL 39 yX10_builds ∈ LW := lw_t5 (List.mem_of_getElem? (i := 36) rfl) rfl
theorem tw_5_37 : Cond.instanceMethod yX10_builds ∈ LW := lw_t5 (List.mem_of_getElem? (i := 37) rfl) rfl
theorem tw_5_38 : Cond.selects RX10 yX10_builds yX10_builds ∈ LW := lw_t5 (List.mem_of_getElem? (i := 38) rfl) rfl
theorem tw_5_39 : Cond.code yX10_builds cX10_builds 5 (some .int) ∈ LW := lw_t5 (List.mem_of_getElem? (i := 39) rfl) rfl
theorem tw_5_40 : Cond.methodLink RX10 165 yX10_wrongKept ∈ LW := lw_t5 (List.mem_of_getElem? (i := 40) rfl) rfl
theorem tw_5_42 : Cond.instanceMethod yX10_wrongKept ∈ LW := lw_t5 (List.mem_of_getElem? (i := 42) rfl) rfl
theorem tw_5_43 : Cond.code yX10_wrongKept cX10_wrongKept 2 (some .int) ∈ LW := lw_t5 (List.mem_of_getElem? (i := 43) rfl) rfl
theorem tw_5_44 : Cond.methodLink RL 43 yX10_stops ∈ LW := lw_t5 (List.mem_of_getElem? (i := 44) rfl) rfl
theorem tw_5_45 : Cond.instanceMethod yX10_stops ∈ LW := lw_t5 (List.mem_of_getElem? (i := 45) rfl) rfl
theorem tw_5_46 : Cond.selects RX10 yX10_stops yX10_stops ∈ LW := lw_t5 (List.mem_of_getElem? (i := 46) rfl) rfl
theorem tw_5_47 : Cond.code yX10_stops cX10_stops 2 (some .int) ∈ LW := lw_t5 (List.mem_of_getElem? (i := 47) rfl) rfl
theorem tw_5_48 : Cond.methodLink RL 47 yX10_needs ∈ LW := lw_t5 (List.mem_of_getElem? (i := 48) rfl) rfl
theorem tw_5_49 : Cond.instanceMethod yX10_needs ∈ LW := lw_t5 (List.mem_of_getElem? (i := 49) rfl) rfl
theorem tw_5_50 : Cond.selects RX10 yX10_needs yX10_needs ∈ LW := lw_t5 (List.mem_of_getElem? (i := 50) rfl) rfl
theorem tw_5_51 : Cond.code yX10_needs cX10_needs 4 (some .int) ∈ LW := lw_t5 (List.mem_of_getElem? (i := 51) rfl) rfl
theorem tw_5_52 : Cond.methodLink RL 51 yX10_set ∈ LW := lw_t5 (List.mem_of_getElem? (i := 52) rfl) rfl
theorem tw_5_53 : Cond.instanceMethod yX10_set ∈ LW := lw_t5 (List.mem_of_getElem? (i := 53) rfl) rfl
theorem tw_5_54 : Cond.selects RX10 yX10_set yX10_set ∈ LW := lw_t5 (List.mem_of_getElem? (i := 54) rfl) rfl
theorem tw_5_55 : Cond.code yX10_set cX10_set 5 (some .int) ∈ LW := lw_t5 (List.mem_of_getElem? (i := 55) rfl) rfl
theorem tw_5_56 : Cond.methodLink RL 55 yX10_years ∈ LW := lw_t5 (List.mem_of_getElem? (i := 56) rfl) rfl
theorem tw_5_57 : Cond.instanceMethod yX10_years ∈ LW := lw_t5 (List.mem_of_getElem? (i := 57) rfl) rfl
theorem tw_5_58 : Cond.selects RX10 yX10_years yX10_years ∈ LW := lw_t5 (List.mem_of_getElem? (i := 58) rfl) rfl
theorem tw_5_59 : Cond.code yX10_years cX10_years 2 (some .int) ∈ LW := lw_t5 (List.mem_of_getElem? (i := 59) rfl) rfl
theorem tw_5_60 : Cond.methodLink RL 59 yX10_pays ∈ LW := lw_t5 (List.mem_of_getElem? (i := 60) rfl) rfl
theorem tw_5_61 : Cond.instanceMethod yX10_pays ∈ LW := lw_t5 (List.mem_of_getElem? (i := 61) rfl) rfl
theorem tw_5_62 : Cond.selects RX10 yX10_pays yX10_pays ∈ LW := lw_t5 (List.mem_of_getElem? (i := 62) rfl) rfl
theorem tw_5_63 : Cond.code yX10_pays cX10_pays 2 (some .int) ∈ LW := lw_t5 (List.mem_of_getElem? (i := 63) rfl) rfl
theorem tw_5_64 : Cond.methodLink RL 63 yX10_light ∈ LW := lw_t5 (List.mem_of_getElem? (i := 64) rfl) rfl
theorem tw_5_65 : Cond.instanceMethod yX10_light ∈ LW := lw_t5 (List.mem_of_getElem? (i := 65) rfl) rfl
theorem tw_5_66 : Cond.selects RX10 yX10_light yX10_light ∈ LW := lw_t5 (List.mem_of_getElem? (i := 66) rfl) rfl
theorem tw_5_67 : Cond.code yX10_light cX10_light 3 (some .int) ∈ LW := lw_t5 (List.mem_of_getElem? (i := 67) rfl) rfl
theorem tw_5_68 : Cond.methodLink RX10 86 yX10_lightOf ∈ LW := lw_t5 (List.mem_of_getElem? (i := 68) rfl) rfl
theorem tw_5_69 : Cond.static yX10_lightOf ∈ LW := lw_t5 (List.mem_of_getElem? (i := 69) rfl) rfl
theorem tw_5_70 : Cond.code yX10_lightOf cX10_lightOf 5 (some .int) ∈ LW := lw_t5 (List.mem_of_getElem? (i := 70) rfl) rfl
theorem tw_5_71 : Cond.methodLink RL 68 yX10_allDue ∈ LW := lw_t5 (List.mem_of_getElem? (i := 71) rfl) rfl
theorem tw_5_72 : Cond.instanceMethod yX10_allDue ∈ LW := lw_t5 (List.mem_of_getElem? (i := 72) rfl) rfl
theorem tw_5_73 : Cond.selects RX10 yX10_allDue yX10_allDue ∈ LW := lw_t5 (List.mem_of_getElem? (i := 73) rfl) rfl
theorem tw_5_74 : Cond.code yX10_allDue cX10_allDue 1 (some .int) ∈ LW := lw_t5 (List.mem_of_getElem? (i := 74) rfl) rfl
theorem tw_5_75 : Cond.methodLink RL 72 yX10_stop ∈ LW := lw_t5 (List.mem_of_getElem? (i := 75) rfl) rfl
theorem tw_5_76 : Cond.instanceMethod yX10_stop ∈ LW := lw_t5 (List.mem_of_getElem? (i := 76) rfl) rfl
theorem tw_5_77 : Cond.selects RX10 yX10_stop yX10_stop ∈ LW := lw_t5 (List.mem_of_getElem? (i := 77) rfl) rfl
theorem tw_5_78 : Cond.code yX10_stop cX10_stop 5 (some .int) ∈ LW := lw_t5 (List.mem_of_getElem? (i := 78) rfl) rfl
theorem tw_5_80 : Cond.methodLink RX10 170 yX10_stopsSet ∈ LW := lw_t5 (List.mem_of_getElem? (i := 80) rfl) rfl
theorem tw_5_81 : Cond.static yX10_stopsSet ∈ LW := lw_t5 (List.mem_of_getElem? (i := 81) rfl) rfl
theorem tw_5_82 : Cond.code yX10_stopsSet cX10_stopsSet 3 none ∈ LW := lw_t5 (List.mem_of_getElem? (i := 82) rfl) rfl
theorem tw_5_83 : Cond.methodLink RX10 174 yX10_isDark ∈ LW := lw_t5 (List.mem_of_getElem? (i := 83) rfl) rfl
theorem tw_5_84 : Cond.static yX10_isDark ∈ LW := lw_t5 (List.mem_of_getElem? (i := 84) rfl) rfl
theorem tw_5_85 : Cond.code yX10_isDark cX10_isDark 3 (some .boolean) ∈ LW := lw_t5 (List.mem_of_getElem? (i := 85) rfl) rfl
theorem tw_5_86 : Cond.methodLink RX10 89 yX10_lacks ∈ LW := lw_t5 (List.mem_of_getElem? (i := 86) rfl) rfl
theorem tw_5_87 : Cond.static yX10_lacks ∈ LW := lw_t5 (List.mem_of_getElem? (i := 87) rfl) rfl
theorem tw_5_88 : Cond.code yX10_lacks cX10_lacks 3 (some .int) ∈ LW := lw_t5 (List.mem_of_getElem? (i := 88) rfl) rfl
theorem tw_5_89 : Cond.methodLink RL 76 yX10_dark ∈ LW := lw_t5 (List.mem_of_getElem? (i := 89) rfl) rfl
theorem tw_5_90 : Cond.instanceMethod yX10_dark ∈ LW := lw_t5 (List.mem_of_getElem? (i := 90) rfl) rfl
theorem tw_5_91 : Cond.selects RX10 yX10_dark yX10_dark ∈ LW := lw_t5 (List.mem_of_getElem? (i := 91) rfl) rfl
theorem tw_5_92 : Cond.code yX10_dark cX10_dark 3 (some .int) ∈ LW := lw_t5 (List.mem_of_getElem? (i := 92) rfl) rfl
theorem tw_5_93 : Cond.methodLink RL 80 yX10_darkest ∈ LW := lw_t5 (List.mem_of_getElem? (i := 93) rfl) rfl
theorem tw_5_94 : Cond.instanceMethod yX10_darkest ∈ LW := lw_t5 (List.mem_of_getElem? (i := 94) rfl) rfl
theorem tw_5_95 : Cond.selects RX10 yX10_darkest yX10_darkest ∈ LW := lw_t5 (List.mem_of_getElem? (i := 95) rfl) rfl
theorem tw_5_96 : Cond.code yX10_darkest cX10_darkest 3 (some .int) ∈ LW := lw_t5 (List.mem_of_getElem? (i := 96) rfl) rfl
theorem tw_5_97 : Cond.methodLink RX10 177 yX10_allLight ∈ LW := lw_t5 (List.mem_of_getElem? (i := 97) rfl) rfl
theorem tw_5_98 : Cond.static yX10_allLight ∈ LW := lw_t5 (List.mem_of_getElem? (i := 98) rfl) rfl
theorem tw_5_99 : Cond.code yX10_allLight cX10_allLight 4 (some .int) ∈ LW := lw_t5 (List.mem_of_getElem? (i := 99) rfl) rfl
theorem tw_5_100 : Cond.methodLink RL 84 yX10_bright ∈ LW := lw_t5 (List.mem_of_getElem? (i := 100) rfl) rfl
theorem tw_5_101 : Cond.instanceMethod yX10_bright ∈ LW := lw_t5 (List.mem_of_getElem? (i := 101) rfl) rfl
theorem tw_5_102 : Cond.selects RX10 yX10_bright yX10_bright ∈ LW := lw_t5 (List.mem_of_getElem? (i := 102) rfl) rfl
theorem tw_5_103 : Cond.code yX10_bright cX10_bright 7 (some .int) ∈ LW := lw_t5 (List.mem_of_getElem? (i := 103) rfl) rfl
theorem tw_5_104 : Cond.methodLink RX10 180 yX10_dark ∈ LW := lw_t5 (List.mem_of_getElem? (i := 104) rfl) rfl
theorem tw_5_105 : Cond.methodLink RX10 183 yX10_has ∈ LW := lw_t5 (List.mem_of_getElem? (i := 105) rfl) rfl
theorem tw_5_106 : Cond.static yX10_has ∈ LW := lw_t5 (List.mem_of_getElem? (i := 106) rfl) rfl
theorem tw_5_107 : Cond.code yX10_has cX10_has 2 (some .boolean) ∈ LW := lw_t5 (List.mem_of_getElem? (i := 107) rfl) rfl
theorem tw_5_108 : Cond.methodLink RL 88 yX10_mirrors ∈ LW := lw_t5 (List.mem_of_getElem? (i := 108) rfl) rfl
theorem tw_5_109 : Cond.instanceMethod yX10_mirrors ∈ LW := lw_t5 (List.mem_of_getElem? (i := 109) rfl) rfl
theorem tw_5_110 : Cond.selects RX10 yX10_mirrors yX10_mirrors ∈ LW := lw_t5 (List.mem_of_getElem? (i := 110) rfl) rfl
theorem tw_5_111 : Cond.code yX10_mirrors cX10_mirrors 5 (some .int) ∈ LW := lw_t5 (List.mem_of_getElem? (i := 111) rfl) rfl
theorem tw_5_112 : Cond.methodLink RX10 186 yX10_bits ∈ LW := lw_t5 (List.mem_of_getElem? (i := 112) rfl) rfl
theorem tw_5_113 : Cond.static yX10_bits ∈ LW := lw_t5 (List.mem_of_getElem? (i := 113) rfl) rfl
theorem tw_5_114 : Cond.code yX10_bits cX10_bits 3 (some .int) ∈ LW := lw_t5 (List.mem_of_getElem? (i := 114) rfl) rfl
theorem tw_5_115 : Cond.methodLink RL 92 yX10_mean ∈ LW := lw_t5 (List.mem_of_getElem? (i := 115) rfl) rfl
theorem tw_5_116 : Cond.instanceMethod yX10_mean ∈ LW := lw_t5 (List.mem_of_getElem? (i := 116) rfl) rfl
theorem tw_5_117 : Cond.selects RX10 yX10_mean yX10_mean ∈ LW := lw_t5 (List.mem_of_getElem? (i := 117) rfl) rfl
theorem tw_5_118 : Cond.code yX10_mean cX10_mean 6 (some .long) ∈ LW := lw_t5 (List.mem_of_getElem? (i := 118) rfl) rfl
theorem tw_5_121 : Cond.methodLink RX10 197 yX10_partOf ∈ LW := lw_t5 (List.mem_of_getElem? (i := 121) rfl) rfl
theorem tw_5_122 : Cond.static yX10_partOf ∈ LW := lw_t5 (List.mem_of_getElem? (i := 122) rfl) rfl
theorem tw_5_123 : Cond.code yX10_partOf cX10_partOf 5 (some .long) ∈ LW := lw_t5 (List.mem_of_getElem? (i := 123) rfl) rfl
theorem tw_5_124 : Cond.methodLink RX10 189 yX10_gcd ∈ LW := lw_t5 (List.mem_of_getElem? (i := 124) rfl) rfl
theorem tw_5_125 : Cond.static yX10_gcd ∈ LW := lw_t5 (List.mem_of_getElem? (i := 125) rfl) rfl
theorem tw_5_126 : Cond.code yX10_gcd cX10_gcd 10 (some .long) ∈ LW := lw_t5 (List.mem_of_getElem? (i := 126) rfl) rfl
theorem tw_5_127 : Cond.methodLink RL 96 yX10_hidden ∈ LW := lw_t5 (List.mem_of_getElem? (i := 127) rfl) rfl
theorem tw_5_128 : Cond.instanceMethod yX10_hidden ∈ LW := lw_t5 (List.mem_of_getElem? (i := 128) rfl) rfl
theorem tw_5_129 : Cond.selects RX10 yX10_hidden yX10_hidden ∈ LW := lw_t5 (List.mem_of_getElem? (i := 129) rfl) rfl
theorem tw_5_130 : Cond.code yX10_hidden cX10_hidden 3 (some .int) ∈ LW := lw_t5 (List.mem_of_getElem? (i := 130) rfl) rfl
theorem tw_5_131 : Cond.methodLink RX10 201 yX10_isNoDarker ∈ LW := lw_t5 (List.mem_of_getElem? (i := 131) rfl) rfl
theorem tw_5_133 : Cond.instanceMethod yX10_isNoDarker ∈ LW := lw_t5 (List.mem_of_getElem? (i := 133) rfl) rfl
theorem tw_5_134 : Cond.code yX10_isNoDarker cX10_isNoDarker 3 (some .boolean) ∈ LW := lw_t5 (List.mem_of_getElem? (i := 134) rfl) rfl
theorem tw_5_135 : Cond.methodLink RL 100 yX10_looks ∈ LW := lw_t5 (List.mem_of_getElem? (i := 135) rfl) rfl
theorem tw_5_136 : Cond.instanceMethod yX10_looks ∈ LW := lw_t5 (List.mem_of_getElem? (i := 136) rfl) rfl
theorem tw_5_137 : Cond.selects RX10 yX10_looks yX10_looks ∈ LW := lw_t5 (List.mem_of_getElem? (i := 137) rfl) rfl
theorem tw_5_138 : Cond.code yX10_looks cX10_looks 5 (some .int) ∈ LW := lw_t5 (List.mem_of_getElem? (i := 138) rfl) rfl
theorem tw_5_139 : Cond.methodLink RX10 204 yX10_areUnlike ∈ LW := lw_t5 (List.mem_of_getElem? (i := 139) rfl) rfl
theorem tw_5_141 : Cond.instanceMethod yX10_areUnlike ∈ LW := lw_t5 (List.mem_of_getElem? (i := 141) rfl) rfl
theorem tw_5_142 : Cond.code yX10_areUnlike cX10_areUnlike 4 (some .boolean) ∈ LW := lw_t5 (List.mem_of_getElem? (i := 142) rfl) rfl
theorem tw_5_143 : Cond.methodLink RL 104 yX10_mostMoving ∈ LW := lw_t5 (List.mem_of_getElem? (i := 143) rfl) rfl
theorem tw_5_144 : Cond.instanceMethod yX10_mostMoving ∈ LW := lw_t5 (List.mem_of_getElem? (i := 144) rfl) rfl
theorem tw_5_145 : Cond.selects RX10 yX10_mostMoving yX10_mostMoving ∈ LW := lw_t5 (List.mem_of_getElem? (i := 145) rfl) rfl
theorem tw_5_146 : Cond.code yX10_mostMoving cX10_mostMoving 4 (some .int) ∈ LW := lw_t5 (List.mem_of_getElem? (i := 146) rfl) rfl
theorem tw_5_147 : Cond.methodLink RX10 207 yX10_movesMany ∈ LW := lw_t5 (List.mem_of_getElem? (i := 147) rfl) rfl
theorem tw_5_148 : Cond.static yX10_movesMany ∈ LW := lw_t5 (List.mem_of_getElem? (i := 148) rfl) rfl
theorem tw_5_149 : Cond.code yX10_movesMany cX10_movesMany 4 (some .int) ∈ LW := lw_t5 (List.mem_of_getElem? (i := 149) rfl) rfl
theorem tw_5_150 : Cond.methodLink RL 108 yX10_taken ∈ LW := lw_t5 (List.mem_of_getElem? (i := 150) rfl) rfl
theorem tw_5_151 : Cond.instanceMethod yX10_taken ∈ LW := lw_t5 (List.mem_of_getElem? (i := 151) rfl) rfl
theorem tw_5_152 : Cond.selects RX10 yX10_taken yX10_taken ∈ LW := lw_t5 (List.mem_of_getElem? (i := 152) rfl) rfl
theorem tw_5_153 : Cond.code yX10_taken cX10_taken 4 (some .int) ∈ LW := lw_t5 (List.mem_of_getElem? (i := 153) rfl) rfl
theorem tw_5_154 : Cond.methodLink RL 112 yX10_bestHour ∈ LW := lw_t5 (List.mem_of_getElem? (i := 154) rfl) rfl
theorem tw_5_155 : Cond.instanceMethod yX10_bestHour ∈ LW := lw_t5 (List.mem_of_getElem? (i := 155) rfl) rfl
theorem tw_5_156 : Cond.selects RX10 yX10_bestHour yX10_bestHour ∈ LW := lw_t5 (List.mem_of_getElem? (i := 156) rfl) rfl
theorem tw_5_157 : Cond.code yX10_bestHour cX10_bestHour 7 (some .int) ∈ LW := lw_t5 (List.mem_of_getElem? (i := 157) rfl) rfl
theorem tw_5_158 : Cond.methodLink RX10 210 yX10_isPainted ∈ LW := lw_t5 (List.mem_of_getElem? (i := 158) rfl) rfl
theorem tw_5_159 : Cond.static yX10_isPainted ∈ LW := lw_t5 (List.mem_of_getElem? (i := 159) rfl) rfl
theorem tw_5_160 : Cond.code yX10_isPainted cX10_isPainted 1 (some .boolean) ∈ LW := lw_t5 (List.mem_of_getElem? (i := 160) rfl) rfl
theorem tw_5_161 : Cond.methodLink RL 116 yX10_game ∈ LW := lw_t5 (List.mem_of_getElem? (i := 161) rfl) rfl
theorem tw_5_162 : Cond.instanceMethod yX10_game ∈ LW := lw_t5 (List.mem_of_getElem? (i := 162) rfl) rfl
theorem tw_5_163 : Cond.selects RX10 yX10_game yX10_game ∈ LW := lw_t5 (List.mem_of_getElem? (i := 163) rfl) rfl
theorem tw_5_164 : Cond.code yX10_game cX10_game 4 (some .int) ∈ LW := lw_t5 (List.mem_of_getElem? (i := 164) rfl) rfl
theorem tw_5_165 : Cond.methodLink RX10 219 yX10_assessed ∈ LW := lw_t5 (List.mem_of_getElem? (i := 165) rfl) rfl
theorem tw_5_167 : Cond.instanceMethod yX10_assessed ∈ LW := lw_t5 (List.mem_of_getElem? (i := 167) rfl) rfl
theorem tw_5_168 : Cond.code yX10_assessed cX10_assessed 7 (some .int) ∈ LW := lw_t5 (List.mem_of_getElem? (i := 168) rfl) rfl
theorem tw_5_169 : Cond.methodLink RX10 213 yX10_answered ∈ LW := lw_t5 (List.mem_of_getElem? (i := 169) rfl) rfl
theorem tw_5_171 : Cond.instanceMethod yX10_answered ∈ LW := lw_t5 (List.mem_of_getElem? (i := 171) rfl) rfl
theorem tw_5_172 : Cond.code yX10_answered cX10_answered 5 (some .int) ∈ LW := lw_t5 (List.mem_of_getElem? (i := 172) rfl) rfl
theorem tw_5_173 : Cond.methodLink RL 120 yX10_suitor ∈ LW := lw_t5 (List.mem_of_getElem? (i := 173) rfl) rfl
theorem tw_5_174 : Cond.instanceMethod yX10_suitor ∈ LW := lw_t5 (List.mem_of_getElem? (i := 174) rfl) rfl
theorem tw_5_175 : Cond.selects RX10 yX10_suitor yX10_suitor ∈ LW := lw_t5 (List.mem_of_getElem? (i := 175) rfl) rfl
theorem tw_5_176 : Cond.code yX10_suitor cX10_suitor 5 (some .int) ∈ LW := lw_t5 (List.mem_of_getElem? (i := 176) rfl) rfl
theorem tw_5_177 : Cond.methodLink RX10 222 yX10_addressed ∈ LW := lw_t5 (List.mem_of_getElem? (i := 177) rfl) rfl
theorem tw_5_179 : Cond.instanceMethod yX10_addressed ∈ LW := lw_t5 (List.mem_of_getElem? (i := 179) rfl) rfl
theorem tw_5_180 : Cond.code yX10_addressed cX10_addressed 6 (some .int) ∈ LW := lw_t5 (List.mem_of_getElem? (i := 180) rfl) rfl
theorem tw_5_181 : Cond.methodLink RL 124 yX10_twins ∈ LW := lw_t5 (List.mem_of_getElem? (i := 181) rfl) rfl
theorem tw_5_182 : Cond.instanceMethod yX10_twins ∈ LW := lw_t5 (List.mem_of_getElem? (i := 182) rfl) rfl
theorem tw_5_183 : Cond.selects RX10 yX10_twins yX10_twins ∈ LW := lw_t5 (List.mem_of_getElem? (i := 183) rfl) rfl
theorem tw_5_184 : Cond.code yX10_twins cX10_twins 6 (some .int) ∈ LW := lw_t5 (List.mem_of_getElem? (i := 184) rfl) rfl
theorem tw_5_185 : Cond.methodLink RX10 225 yX10_areTwins ∈ LW := lw_t5 (List.mem_of_getElem? (i := 185) rfl) rfl
theorem tw_5_187 : Cond.instanceMethod yX10_areTwins ∈ LW := lw_t5 (List.mem_of_getElem? (i := 187) rfl) rfl
theorem tw_5_188 : Cond.code yX10_areTwins cX10_areTwins 4 (some .boolean) ∈ LW := lw_t5 (List.mem_of_getElem? (i := 188) rfl) rfl
theorem tw_5_189 : Cond.methodLink RL 129 yX10_whatWas ∈ LW := lw_t5 (List.mem_of_getElem? (i := 189) rfl) rfl
theorem tw_5_190 : Cond.instanceMethod yX10_whatWas ∈ LW := lw_t5 (List.mem_of_getElem? (i := 190) rfl) rfl
theorem tw_5_191 : Cond.selects RX10 yX10_whatWas yX10_whatWas ∈ LW := lw_t5 (List.mem_of_getElem? (i := 191) rfl) rfl
theorem tw_5_192 : Cond.code yX10_whatWas cX10_whatWas 11 (some .int) ∈ LW := lw_t5 (List.mem_of_getElem? (i := 192) rfl) rfl
theorem tw_5_193 : Cond.methodLink RX10 229 yX10_leastOf ∈ LW := lw_t5 (List.mem_of_getElem? (i := 193) rfl) rfl
theorem tw_5_194 : Cond.static yX10_leastOf ∈ LW := lw_t5 (List.mem_of_getElem? (i := 194) rfl) rfl
theorem tw_5_195 : Cond.code yX10_leastOf cX10_leastOf 1 (some .int) ∈ LW := lw_t5 (List.mem_of_getElem? (i := 195) rfl) rfl
theorem tw_5_197 : Cond.methodLink RL 133 yX10_paidOff ∈ LW := lw_t5 (List.mem_of_getElem? (i := 197) rfl) rfl
theorem tw_5_198 : Cond.instanceMethod yX10_paidOff ∈ LW := lw_t5 (List.mem_of_getElem? (i := 198) rfl) rfl
theorem tw_5_199 : Cond.selects RX10 yX10_paidOff yX10_paidOff ∈ LW := lw_t5 (List.mem_of_getElem? (i := 199) rfl) rfl
theorem tw_5_200 : Cond.code yX10_paidOff cX10_paidOff 3 (some .int) ∈ LW := lw_t5 (List.mem_of_getElem? (i := 200) rfl) rfl
theorem tw_5_201 : Cond.methodLink RL 138 yX10_rain ∈ LW := lw_t5 (List.mem_of_getElem? (i := 201) rfl) rfl
theorem tw_5_202 : Cond.instanceMethod yX10_rain ∈ LW := lw_t5 (List.mem_of_getElem? (i := 202) rfl) rfl
theorem tw_5_203 : Cond.selects RX10 yX10_rain yX10_rain ∈ LW := lw_t5 (List.mem_of_getElem? (i := 203) rfl) rfl
theorem tw_5_204 : Cond.code yX10_rain cX10_rain 13 (some .long) ∈ LW := lw_t5 (List.mem_of_getElem? (i := 204) rfl) rfl
theorem tw_5_205 : Cond.methodLink RL 142 yX10_loophole ∈ LW := lw_t5 (List.mem_of_getElem? (i := 205) rfl) rfl
theorem tw_5_206 : Cond.instanceMethod yX10_loophole ∈ LW := lw_t5 (List.mem_of_getElem? (i := 206) rfl) rfl
theorem tw_5_207 : Cond.selects RX10 yX10_loophole yX10_loophole ∈ LW := lw_t5 (List.mem_of_getElem? (i := 207) rfl) rfl
theorem tw_5_208 : Cond.code yX10_loophole cX10_loophole 7 (some .int) ∈ LW := lw_t5 (List.mem_of_getElem? (i := 208) rfl) rfl
theorem tw_5_209 : Cond.methodLink RL 146 yX10_forged ∈ LW := lw_t5 (List.mem_of_getElem? (i := 209) rfl) rfl
theorem tw_5_210 : Cond.instanceMethod yX10_forged ∈ LW := lw_t5 (List.mem_of_getElem? (i := 210) rfl) rfl
theorem tw_5_211 : Cond.selects RX10 yX10_forged yX10_forged ∈ LW := lw_t5 (List.mem_of_getElem? (i := 211) rfl) rfl
theorem tw_5_212 : Cond.code yX10_forged cX10_forged 6 (some .int) ∈ LW := lw_t5 (List.mem_of_getElem? (i := 212) rfl) rfl
theorem tw_5_213 : Cond.methodLink RL 150 yX10_judge ∈ LW := lw_t5 (List.mem_of_getElem? (i := 213) rfl) rfl
theorem tw_5_214 : Cond.instanceMethod yX10_judge ∈ LW := lw_t5 (List.mem_of_getElem? (i := 214) rfl) rfl
theorem tw_5_215 : Cond.selects RX10 yX10_judge yX10_judge ∈ LW := lw_t5 (List.mem_of_getElem? (i := 215) rfl) rfl
theorem tw_5_216 : Cond.code yX10_judge cX10_judge 5 (some .int) ∈ LW := lw_t5 (List.mem_of_getElem? (i := 216) rfl) rfl
theorem tw_5_217 : Cond.methodLink RL 154 yX10_lots ∈ LW := lw_t5 (List.mem_of_getElem? (i := 217) rfl) rfl
theorem tw_5_218 : Cond.instanceMethod yX10_lots ∈ LW := lw_t5 (List.mem_of_getElem? (i := 218) rfl) rfl
theorem tw_5_219 : Cond.selects RX10 yX10_lots yX10_lots ∈ LW := lw_t5 (List.mem_of_getElem? (i := 219) rfl) rfl
theorem tw_5_220 : Cond.code yX10_lots cX10_lots 8 (some .int) ∈ LW := lw_t5 (List.mem_of_getElem? (i := 220) rfl) rfl
theorem tw_5_221 : Cond.methodLink RX10 238 yX10_drawn ∈ LW := lw_t5 (List.mem_of_getElem? (i := 221) rfl) rfl
theorem tw_5_223 : Cond.instanceMethod yX10_drawn ∈ LW := lw_t5 (List.mem_of_getElem? (i := 223) rfl) rfl
theorem tw_5_224 : Cond.code yX10_drawn cX10_drawn 2 (some .int) ∈ LW := lw_t5 (List.mem_of_getElem? (i := 224) rfl) rfl
theorem tw_5_228 : Cond.methodLink RL 158 yX10_image ∈ LW := lw_t5 (List.mem_of_getElem? (i := 228) rfl) rfl
theorem tw_5_229 : Cond.instanceMethod yX10_image ∈ LW := lw_t5 (List.mem_of_getElem? (i := 229) rfl) rfl
theorem tw_5_230 : Cond.selects RX10 yX10_image yX10_image ∈ LW := lw_t5 (List.mem_of_getElem? (i := 230) rfl) rfl
theorem tw_5_231 : Cond.code yX10_image cX10_image 1 (some .int) ∈ LW := lw_t5 (List.mem_of_getElem? (i := 231) rfl) rfl
theorem tw_5_232 : Cond.methodLink RL 162 yX10_restore ∈ LW := lw_t5 (List.mem_of_getElem? (i := 232) rfl) rfl
theorem tw_5_233 : Cond.instanceMethod yX10_restore ∈ LW := lw_t5 (List.mem_of_getElem? (i := 233) rfl) rfl
theorem tw_5_234 : Cond.selects RX10 yX10_restore yX10_restore ∈ LW := lw_t5 (List.mem_of_getElem? (i := 234) rfl) rfl
theorem tw_5_235 : Cond.code yX10_restore cX10_restore 1 (some .int) ∈ LW := lw_t5 (List.mem_of_getElem? (i := 235) rfl) rfl
theorem tw_5_236 : Cond.methodLink RL 166 yX10_count ∈ LW := lw_t5 (List.mem_of_getElem? (i := 236) rfl) rfl
theorem tw_5_237 : Cond.instanceMethod yX10_count ∈ LW := lw_t5 (List.mem_of_getElem? (i := 237) rfl) rfl
theorem tw_5_238 : Cond.selects RX10 yX10_count yX10_count ∈ LW := lw_t5 (List.mem_of_getElem? (i := 238) rfl) rfl
theorem tw_5_239 : Cond.code yX10_count cX10_count 4 (some .int) ∈ LW := lw_t5 (List.mem_of_getElem? (i := 239) rfl) rfl
theorem tw_6_0 : Cond.methodLink RL 185 yX10_thrown ∈ LW := lw_t6 (List.mem_of_getElem? (i := 0) rfl) rfl
theorem tw_6_1 : Cond.instanceMethod yX10_thrown ∈ LW := lw_t6 (List.mem_of_getElem? (i := 1) rfl) rfl
theorem tw_6_2 : Cond.selects RX10 yX10_thrown yX10_thrown ∈ LW := lw_t6 (List.mem_of_getElem? (i := 2) rfl) rfl
theorem tw_6_3 : Cond.code yX10_thrown cX10_thrown 1 (some .int) ∈ LW := lw_t6 (List.mem_of_getElem? (i := 3) rfl) rfl
theorem tw_6_4 : Cond.methodLink RL 170 yX10_keep ∈ LW := lw_t6 (List.mem_of_getElem? (i := 4) rfl) rfl
theorem tw_6_5 : Cond.instanceMethod yX10_keep ∈ LW := lw_t6 (List.mem_of_getElem? (i := 5) rfl) rfl
theorem tw_6_6 : Cond.selects RX10 yX10_keep yX10_keep ∈ LW := lw_t6 (List.mem_of_getElem? (i := 6) rfl) rfl
theorem tw_6_7 : Cond.code yX10_keep cX10_keep 5 (some .int) ∈ LW := lw_t6 (List.mem_of_getElem? (i := 7) rfl) rfl
theorem tw_6_8 : Cond.methodLink RL 174 yX10_row ∈ LW := lw_t6 (List.mem_of_getElem? (i := 8) rfl) rfl
theorem tw_6_9 : Cond.instanceMethod yX10_row ∈ LW := lw_t6 (List.mem_of_getElem? (i := 9) rfl) rfl
theorem tw_6_10 : Cond.selects RX10 yX10_row yX10_row ∈ LW := lw_t6 (List.mem_of_getElem? (i := 10) rfl) rfl
theorem tw_6_11 : Cond.code yX10_row cX10_row 5 (some .int) ∈ LW := lw_t6 (List.mem_of_getElem? (i := 11) rfl) rfl
theorem tw_6_12 : Cond.methodLink RL 178 yX10_put ∈ LW := lw_t6 (List.mem_of_getElem? (i := 12) rfl) rfl
theorem tw_6_13 : Cond.instanceMethod yX10_put ∈ LW := lw_t6 (List.mem_of_getElem? (i := 13) rfl) rfl
theorem tw_6_14 : Cond.selects RX10 yX10_put yX10_put ∈ LW := lw_t6 (List.mem_of_getElem? (i := 14) rfl) rfl
theorem tw_6_15 : Cond.code yX10_put cX10_put 5 (some .int) ∈ LW := lw_t6 (List.mem_of_getElem? (i := 15) rfl) rfl
theorem tw_6_16 : Cond.methodLink RL 184 yX10_element ∈ LW := lw_t6 (List.mem_of_getElem? (i := 16) rfl) rfl
theorem tw_6_17 : Cond.instanceMethod yX10_element ∈ LW := lw_t6 (List.mem_of_getElem? (i := 17) rfl) rfl
theorem tw_6_18 : Cond.selects RX10 yX10_element yX10_element ∈ LW := lw_t6 (List.mem_of_getElem? (i := 18) rfl) rfl
theorem tw_6_19 : Cond.code yX10_element cX10_element 3 (some .long) ∈ LW := lw_t6 (List.mem_of_getElem? (i := 19) rfl) rfl
theorem tw_6_20 : Cond.methodLink RL 192 yX10_copy ∈ LW := lw_t6 (List.mem_of_getElem? (i := 20) rfl) rfl
theorem tw_6_21 : Cond.instanceMethod yX10_copy ∈ LW := lw_t6 (List.mem_of_getElem? (i := 21) rfl) rfl
theorem tw_6_22 : Cond.selects RX10 yX10_copy yX10_copy ∈ LW := lw_t6 (List.mem_of_getElem? (i := 22) rfl) rfl
theorem tw_6_23 : Cond.code yX10_copy cX10_copy 8 (some .int) ∈ LW := lw_t6 (List.mem_of_getElem? (i := 23) rfl) rfl
theorem tw_6_24 : Cond.methodLink RL 196 yX10_cost ∈ LW := lw_t6 (List.mem_of_getElem? (i := 24) rfl) rfl
theorem tw_6_25 : Cond.instanceMethod yX10_cost ∈ LW := lw_t6 (List.mem_of_getElem? (i := 25) rfl) rfl
theorem tw_6_26 : Cond.selects RX10 yX10_cost yX10_cost ∈ LW := lw_t6 (List.mem_of_getElem? (i := 26) rfl) rfl
theorem tw_6_27 : Cond.code yX10_cost cX10_cost 3 (some .int) ∈ LW := lw_t6 (List.mem_of_getElem? (i := 27) rfl) rfl
theorem tw_6_28 : Cond.methodLink RX10 251 yX10_costBy ∈ LW := lw_t6 (List.mem_of_getElem? (i := 28) rfl) rfl
theorem tw_6_29 : Cond.static yX10_costBy ∈ LW := lw_t6 (List.mem_of_getElem? (i := 29) rfl) rfl
theorem tw_6_30 : Cond.code yX10_costBy cX10_costBy 2 (some .int) ∈ LW := lw_t6 (List.mem_of_getElem? (i := 30) rfl) rfl
theorem tw_6_31 : Cond.methodLink RL 200 yX10_toss ∈ LW := lw_t6 (List.mem_of_getElem? (i := 31) rfl) rfl
theorem tw_6_32 : Cond.instanceMethod yX10_toss ∈ LW := lw_t6 (List.mem_of_getElem? (i := 32) rfl) rfl
theorem tw_6_33 : Cond.selects RX10 yX10_toss yX10_toss ∈ LW := lw_t6 (List.mem_of_getElem? (i := 33) rfl) rfl
theorem tw_6_34 : Cond.code yX10_toss cX10_toss 5 (some .int) ∈ LW := lw_t6 (List.mem_of_getElem? (i := 34) rfl) rfl
