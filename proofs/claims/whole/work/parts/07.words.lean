/-! The words that the tables need, each by its place. -/
set_option maxRecDepth 20000 in
theorem tw_0 : Cond.selects "RunOrder$Run" ⟨"RunOrder$Run", "prepare", "()V"⟩ ⟨"RunOrder$Run", "prepare", "()V"⟩ ∈ ax_TT := ax_tt 0 rfl rfl
set_option maxRecDepth 20000 in
theorem tw_1 : Cond.selects "RunOrder$Actions" ⟨"RunOrder$Actions", "greatestRestAbove", "(II)I"⟩ ⟨"RunOrder$Actions", "greatestRestAbove", "(II)I"⟩ ∈ ax_TT := ax_tt 1 rfl rfl
set_option maxRecDepth 20000 in
theorem tw_2 : Cond.selects "RunOrder$Run" ⟨"RunOrder$Run", "stateAtFirst", "(I)I"⟩ ⟨"RunOrder$Run", "stateAtFirst", "(I)I"⟩ ∈ ax_TT := ax_tt 2 rfl rfl
set_option maxRecDepth 20000 in
theorem tw_3 : Cond.selects "RunOrder$Run" ⟨"RunOrder$Run", "endTries", "(I)V"⟩ ⟨"RunOrder$Run", "endTries", "(I)V"⟩ ∈ ax_TT := ax_tt 3 rfl rfl
set_option maxRecDepth 20000 in
theorem tw_4 : Cond.selects "RunOrder$Run" ⟨"RunOrder$Run", "endTry", "(III)V"⟩ ⟨"RunOrder$Run", "endTry", "(III)V"⟩ ∈ ax_TT := ax_tt 4 rfl rfl
set_option maxRecDepth 20000 in
theorem tw_5 : Cond.selects "RunOrder$Run" ⟨"RunOrder$Run", "leaveBothSides", "(I)V"⟩ ⟨"RunOrder$Run", "leaveBothSides", "(I)V"⟩ ∈ ax_TT := ax_tt 5 rfl rfl
set_option maxRecDepth 20000 in
theorem tw_6 : Cond.selects "RunOrder$Run" ⟨"RunOrder$Run", "mayTryAgain", "(I)Z"⟩ ⟨"RunOrder$Run", "mayTryAgain", "(I)Z"⟩ ∈ ax_TT := ax_tt 6 rfl rfl
set_option maxRecDepth 20000 in
theorem tw_7 : Cond.selects "RunOrder$Run" ⟨"RunOrder$Run", "isOneBad", "()Z"⟩ ⟨"RunOrder$Run", "isOneBad", "()Z"⟩ ∈ ax_TT := ax_tt 7 rfl rfl
set_option maxRecDepth 20000 in
theorem tw_8 : Cond.selects "RunOrder$Run" ⟨"RunOrder$Run", "skipHindered", "()V"⟩ ⟨"RunOrder$Run", "skipHindered", "()V"⟩ ∈ ax_TT := ax_tt 8 rfl rfl
set_option maxRecDepth 20000 in
theorem tw_9 : Cond.selects "RunOrder$Run" ⟨"RunOrder$Run", "allIn", "(I)I"⟩ ⟨"RunOrder$Run", "allIn", "(I)I"⟩ ∈ ax_TT := ax_tt 9 rfl rfl
set_option maxRecDepth 20000 in
theorem tw_10 : Cond.selects "RunOrder$Run" ⟨"RunOrder$Run", "stopWaiting", "()V"⟩ ⟨"RunOrder$Run", "stopWaiting", "()V"⟩ ∈ ax_TT := ax_tt 10 rfl rfl
set_option maxRecDepth 20000 in
theorem tw_11 : Cond.selects "RunOrder$Run" ⟨"RunOrder$Run", "beginReady", "(I)V"⟩ ⟨"RunOrder$Run", "beginReady", "(I)V"⟩ ∈ ax_TT := ax_tt 11 rfl rfl
set_option maxRecDepth 20000 in
theorem tw_12 : Cond.selects "RunOrder$Run" ⟨"RunOrder$Run", "allReady", "()I"⟩ ⟨"RunOrder$Run", "allReady", "()I"⟩ ∈ ax_TT := ax_tt 12 rfl rfl
set_option maxRecDepth 20000 in
theorem tw_13 : Cond.selects "RunOrder$Run" ⟨"RunOrder$Run", "isOtherThanTestLeft", "()Z"⟩ ⟨"RunOrder$Run", "isOtherThanTestLeft", "()Z"⟩ ∈ ax_TT := ax_tt 13 rfl rfl
set_option maxRecDepth 20000 in
theorem tw_14 : Cond.selects "RunOrder$Run" ⟨"RunOrder$Run", "foremost", "(I)I"⟩ ⟨"RunOrder$Run", "foremost", "(I)I"⟩ ∈ ax_TT := ax_tt 14 rfl rfl
set_option maxRecDepth 20000 in
theorem tw_15 : Cond.selects "RunOrder$Run" ⟨"RunOrder$Run", "beginTry", "(II)V"⟩ ⟨"RunOrder$Run", "beginTry", "(II)V"⟩ ∈ ax_TT := ax_tt 15 rfl rfl
set_option maxRecDepth 20000 in
theorem tw_16 : Cond.selects "RunOrder$Run" ⟨"RunOrder$Run", "nextEnd", "()I"⟩ ⟨"RunOrder$Run", "nextEnd", "()I"⟩ ∈ ax_TT := ax_tt 16 rfl rfl
set_option maxRecDepth 20000 in
theorem tw_17 : Cond.selects "RunOrderModel" ⟨"RunOrderModel", "isAction", "(I)Z"⟩ ⟨"RunOrderModel", "isAction", "(I)Z"⟩ ∈ ax_TT := ax_tt 17 rfl rfl
set_option maxRecDepth 20000 in
theorem tw_18 : Cond.selects "RunOrderModel" ⟨"RunOrderModel", "all", "(I)I"⟩ ⟨"RunOrderModel", "all", "(I)I"⟩ ∈ ax_TT := ax_tt 18 rfl rfl
set_option maxRecDepth 20000 in
theorem tw_19 : Cond.selects "RunOrderModel" ⟨"RunOrderModel", "want", "()V"⟩ ⟨"RunOrderModel", "want", "()V"⟩ ∈ ax_TT := ax_tt 19 rfl rfl
set_option maxRecDepth 20000 in
theorem tw_20 : Cond.selects "RunOrderModel" ⟨"RunOrderModel", "fresh", "()V"⟩ ⟨"RunOrderModel", "fresh", "()V"⟩ ∈ ax_TT := ax_tt 20 rfl rfl
set_option maxRecDepth 20000 in
theorem tw_21 : Cond.selects "RunOrderModel" ⟨"RunOrderModel", "endAll", "(I)V"⟩ ⟨"RunOrderModel", "endAll", "(I)V"⟩ ∈ ax_TT := ax_tt 21 rfl rfl
set_option maxRecDepth 20000 in
theorem tw_22 : Cond.selects "RunOrderModel" ⟨"RunOrderModel", "end", "(III)V"⟩ ⟨"RunOrderModel", "end", "(III)V"⟩ ∈ ax_TT := ax_tt 22 rfl rfl
set_option maxRecDepth 20000 in
theorem tw_23 : Cond.selects "RunOrderModel" ⟨"RunOrderModel", "isSpoilt", "()Z"⟩ ⟨"RunOrderModel", "isSpoilt", "()Z"⟩ ∈ ax_TT := ax_tt 23 rfl rfl
set_option maxRecDepth 20000 in
theorem tw_24 : Cond.selects "RunOrderModel" ⟨"RunOrderModel", "skipAll", "()V"⟩ ⟨"RunOrderModel", "skipAll", "()V"⟩ ∈ ax_TT := ax_tt 24 rfl rfl
set_option maxRecDepth 20000 in
theorem tw_25 : Cond.selects "RunOrderModel" ⟨"RunOrderModel", "lacks", "(I)Z"⟩ ⟨"RunOrderModel", "lacks", "(I)Z"⟩ ∈ ax_TT := ax_tt 25 rfl rfl
set_option maxRecDepth 20000 in
theorem tw_26 : Cond.selects "RunOrderModel" ⟨"RunOrderModel", "stopAll", "()V"⟩ ⟨"RunOrderModel", "stopAll", "()V"⟩ ∈ ax_TT := ax_tt 26 rfl rfl
set_option maxRecDepth 20000 in
theorem tw_27 : Cond.selects "RunOrderModel" ⟨"RunOrderModel", "beginAll", "(I)V"⟩ ⟨"RunOrderModel", "beginAll", "(I)V"⟩ ∈ ax_TT := ax_tt 27 rfl rfl
set_option maxRecDepth 20000 in
theorem tw_28 : Cond.selects "RunOrderModel" ⟨"RunOrderModel", "isReady", "(IZ)Z"⟩ ⟨"RunOrderModel", "isReady", "(IZ)Z"⟩ ∈ ax_TT := ax_tt 28 rfl rfl
set_option maxRecDepth 20000 in
theorem tw_29 : Cond.selects "RunOrderModel" ⟨"RunOrderModel", "next", "()I"⟩ ⟨"RunOrderModel", "next", "()I"⟩ ∈ ax_TT := ax_tt 29 rfl rfl
set_option maxRecDepth 20000 in
theorem tw_30 : Cond.selects "RunOrderModel" ⟨"RunOrderModel", "fits", "(I)Z"⟩ ⟨"RunOrderModel", "fits", "(I)Z"⟩ ∈ ax_TT := ax_tt 30 rfl rfl
set_option maxRecDepth 20000 in
theorem tw_31 : Cond.selects "RunOrderModel" ⟨"RunOrderModel", "taken", "(I)I"⟩ ⟨"RunOrderModel", "taken", "(I)I"⟩ ∈ ax_TT := ax_tt 31 rfl rfl
set_option maxRecDepth 20000 in
theorem tw_32 : Cond.selects "RunOrderModel" ⟨"RunOrderModel", "begin", "(II)V"⟩ ⟨"RunOrderModel", "begin", "(II)V"⟩ ∈ ax_TT := ax_tt 32 rfl rfl
set_option maxRecDepth 20000 in
theorem tw_33 : Cond.selects "RunOrderModel" ⟨"RunOrderModel", "nextEnd", "()I"⟩ ⟨"RunOrderModel", "nextEnd", "()I"⟩ ∈ ax_TT := ax_tt 33 rfl rfl
set_option maxRecDepth 20000 in
theorem tw_35 : Cond.initialized "RunOrder" ∈ ax_TT := ax_tt 35 rfl rfl
set_option maxRecDepth 20000 in
theorem tw_36 : Cond.initialized "RunOrder$House" ∈ ax_TT := ax_tt 36 rfl rfl
set_option maxRecDepth 20000 in
theorem tw_37 : Cond.initialized "java/lang/Math" ∈ ax_TT := ax_tt 37 rfl rfl
set_option maxRecDepth 20000 in
theorem tw_38 : Cond.initialized "RunOrder$Actions" ∈ ax_TT := ax_tt 38 rfl rfl
set_option maxRecDepth 20000 in
theorem tw_39 : Cond.initialized "RunOrder$Rules" ∈ ax_TT := ax_tt 39 rfl rfl
set_option maxRecDepth 20000 in
theorem tw_40 : Cond.initialized "RunOrder$Run" ∈ ax_TT := ax_tt 40 rfl rfl
set_option maxRecDepth 20000 in
theorem tw_41 : Cond.initialized "RunOrderModel" ∈ ax_TT := ax_tt 41 rfl rfl
set_option maxRecDepth 20000 in
theorem tw_46 : Cond.code ⟨"RunOrder", "<init>", "(II)V"⟩ prog_1_method_1_code 3 none ∈ ax_TT := ax_tt 46 rfl rfl
set_option maxRecDepth 20000 in
theorem tw_47 : Cond.methodLink "RunOrder" 3 ⟨"java/lang/Object", "<init>", "()V"⟩ ∈ ax_TT := ax_tt 47 rfl rfl
set_option maxRecDepth 20000 in
theorem tw_48 : Cond.instanceMethod ⟨"java/lang/Object", "<init>", "()V"⟩ ∈ ax_TT := ax_tt 48 rfl rfl
set_option maxRecDepth 20000 in
theorem tw_49 : Cond.code ⟨"java/lang/Object", "<init>", "()V"⟩ object_method_1_code 1 none ∈ ax_TT := ax_tt 49 rfl rfl
set_option maxRecDepth 20000 in
theorem tw_50 : Cond.classLink "RunOrder" 9 "RunOrder$House" ∈ ax_TT := ax_tt 50 rfl rfl
set_option maxRecDepth 20000 in
theorem tw_51 : Cond.instantiable "RunOrder$House" 9 ∈ ax_TT := ax_tt 51 rfl rfl
set_option maxRecDepth 20000 in
theorem tw_52 : Cond.methodLink "RunOrder" 11 ⟨"RunOrder", "nearest", "(III)I"⟩ ∈ ax_TT := ax_tt 52 rfl rfl
set_option maxRecDepth 20000 in
theorem tw_53 : Cond.static ⟨"RunOrder", "nearest", "(III)I"⟩ ∈ ax_TT := ax_tt 53 rfl rfl
set_option maxRecDepth 20000 in
theorem tw_54 : Cond.code ⟨"RunOrder", "nearest", "(III)I"⟩ prog_1_method_17_code 3 (some .int) ∈ ax_TT := ax_tt 54 rfl rfl
set_option maxRecDepth 20000 in
theorem tw_55 : Cond.methodLink "RunOrder" 125 ⟨"java/lang/Math", "min", "(II)I"⟩ ∈ ax_TT := ax_tt 55 rfl rfl
set_option maxRecDepth 20000 in
theorem tw_56 : Cond.static ⟨"java/lang/Math", "min", "(II)I"⟩ ∈ ax_TT := ax_tt 56 rfl rfl
set_option maxRecDepth 20000 in
theorem tw_57 : Cond.code ⟨"java/lang/Math", "min", "(II)I"⟩ prog_8_method_69_code 2 (some .int) ∈ ax_TT := ax_tt 57 rfl rfl
set_option maxRecDepth 20000 in
theorem tw_58 : Cond.methodLink "RunOrder" 130 ⟨"java/lang/Math", "max", "(II)I"⟩ ∈ ax_TT := ax_tt 58 rfl rfl
set_option maxRecDepth 20000 in
theorem tw_59 : Cond.static ⟨"java/lang/Math", "max", "(II)I"⟩ ∈ ax_TT := ax_tt 59 rfl rfl
set_option maxRecDepth 20000 in
theorem tw_60 : Cond.code ⟨"java/lang/Math", "max", "(II)I"⟩ prog_8_method_65_code 2 (some .int) ∈ ax_TT := ax_tt 60 rfl rfl
set_option maxRecDepth 20000 in
theorem tw_61 : Cond.constant "RunOrder" 15 1000000 ∈ ax_TT := ax_tt 61 rfl rfl
set_option maxRecDepth 20000 in
theorem tw_62 : Cond.methodLink "RunOrder" 16 ⟨"RunOrder$House", "<init>", "(II)V"⟩ ∈ ax_TT := ax_tt 62 rfl rfl
set_option maxRecDepth 20000 in
theorem tw_63 : Cond.instanceMethod ⟨"RunOrder$House", "<init>", "(II)V"⟩ ∈ ax_TT := ax_tt 63 rfl rfl
set_option maxRecDepth 20000 in
theorem tw_64 : Cond.code ⟨"RunOrder$House", "<init>", "(II)V"⟩ prog_3_method_1_code 3 none ∈ ax_TT := ax_tt 64 rfl rfl
set_option maxRecDepth 20000 in
theorem tw_65 : Cond.methodLink "RunOrder$House" 1 ⟨"java/lang/Object", "<init>", "()V"⟩ ∈ ax_TT := ax_tt 65 rfl rfl
set_option maxRecDepth 20000 in
theorem tw_66 : Cond.fieldLink "RunOrder$House" 7 "RunOrder$House" "cores" "I" ∈ ax_TT := ax_tt 66 rfl rfl
set_option maxRecDepth 20000 in
theorem tw_67 : Cond.fieldLink "RunOrder$House" 13 "RunOrder$House" "memory" "I" ∈ ax_TT := ax_tt 67 rfl rfl
set_option maxRecDepth 20000 in
theorem tw_68 : Cond.fieldLink "RunOrder" 50 "RunOrder$House" "slots" "I" ∈ ax_TT := ax_tt 68 rfl rfl
set_option maxRecDepth 20000 in
theorem tw_69 : Cond.fieldLink "RunOrder$House" 34 "RunOrder$House" "slots" "I" ∈ ax_TT := ax_tt 69 rfl rfl
set_option maxRecDepth 20000 in
theorem tw_70 : Cond.fieldLink "RunOrder$House" 16 "RunOrder$House" "coresTaken" "I" ∈ ax_TT := ax_tt 70 rfl rfl
set_option maxRecDepth 20000 in
theorem tw_71 : Cond.fieldLink "RunOrder$House" 19 "RunOrder$House" "memoryTaken" "I" ∈ ax_TT := ax_tt 71 rfl rfl
set_option maxRecDepth 20000 in
theorem tw_72 : Cond.fieldLink "RunOrder$House" 22 "RunOrder$House" "locksTaken" "I" ∈ ax_TT := ax_tt 72 rfl rfl
set_option maxRecDepth 20000 in
theorem tw_73 : Cond.fieldLink "RunOrder$House" 25 "RunOrder$House" "slotsTaken" "I" ∈ ax_TT := ax_tt 73 rfl rfl
set_option maxRecDepth 20000 in
theorem tw_74 : Cond.fieldLink "RunOrder$Run" 139 "RunOrder$House" "slotsTaken" "I" ∈ ax_TT := ax_tt 74 rfl rfl
set_option maxRecDepth 20000 in
theorem tw_75 : Cond.fieldLink "RunOrder$House" 28 "RunOrder$House" "mostCores" "I" ∈ ax_TT := ax_tt 75 rfl rfl
set_option maxRecDepth 20000 in
theorem tw_76 : Cond.fieldLink "RunOrder" 119 "RunOrder$House" "mostCores" "I" ∈ ax_TT := ax_tt 76 rfl rfl
set_option maxRecDepth 20000 in
theorem tw_77 : Cond.fieldLink "RunOrder$House" 31 "RunOrder$House" "mostMemory" "I" ∈ ax_TT := ax_tt 77 rfl rfl
set_option maxRecDepth 20000 in
theorem tw_78 : Cond.fieldLink "RunOrder" 122 "RunOrder$House" "mostMemory" "I" ∈ ax_TT := ax_tt 78 rfl rfl
set_option maxRecDepth 20000 in
theorem tw_79 : Cond.laysFinal "RunOrder$House" "RunOrder$House" "cores" "I" ∈ ax_TT := ax_tt 79 rfl rfl
set_option maxRecDepth 20000 in
theorem tw_81 : Cond.laysFinal "RunOrder$House" "RunOrder$House" "memory" "I" ∈ ax_TT := ax_tt 81 rfl rfl
set_option maxRecDepth 20000 in
theorem tw_83 : Cond.lays "RunOrder$House" "RunOrder$House" "slots" "I" ∈ ax_TT := ax_tt 83 rfl rfl
set_option maxRecDepth 20000 in
theorem tw_85 : Cond.lays "RunOrder$House" "RunOrder$House" "coresTaken" "I" ∈ ax_TT := ax_tt 85 rfl rfl
set_option maxRecDepth 20000 in
theorem tw_87 : Cond.lays "RunOrder$House" "RunOrder$House" "memoryTaken" "I" ∈ ax_TT := ax_tt 87 rfl rfl
set_option maxRecDepth 20000 in
theorem tw_89 : Cond.lays "RunOrder$House" "RunOrder$House" "locksTaken" "I" ∈ ax_TT := ax_tt 89 rfl rfl
set_option maxRecDepth 20000 in
theorem tw_91 : Cond.lays "RunOrder$House" "RunOrder$House" "slotsTaken" "I" ∈ ax_TT := ax_tt 91 rfl rfl
set_option maxRecDepth 20000 in
theorem tw_93 : Cond.lays "RunOrder$House" "RunOrder$House" "mostCores" "I" ∈ ax_TT := ax_tt 93 rfl rfl
set_option maxRecDepth 20000 in
theorem tw_95 : Cond.lays "RunOrder$House" "RunOrder$House" "mostMemory" "I" ∈ ax_TT := ax_tt 95 rfl rfl
set_option maxRecDepth 20000 in
theorem tw_98 : Cond.classLink "RunOrder" 23 "RunOrder$Actions" ∈ ax_TT := ax_tt 98 rfl rfl
set_option maxRecDepth 20000 in
theorem tw_99 : Cond.instantiable "RunOrder$Actions" 13 ∈ ax_TT := ax_tt 99 rfl rfl
set_option maxRecDepth 20000 in
theorem tw_101 : Cond.instanceMethod ⟨"RunOrder$Actions", "<init>", "()V"⟩ ∈ ax_TT := ax_tt 101 rfl rfl
set_option maxRecDepth 20000 in
theorem tw_102 : Cond.code ⟨"RunOrder$Actions", "<init>", "()V"⟩ prog_2_method_1_code 1 none ∈ ax_TT := ax_tt 102 rfl rfl
set_option maxRecDepth 20000 in
theorem tw_103 : Cond.methodLink "RunOrder$Actions" 3 ⟨"java/lang/Object", "<init>", "()V"⟩ ∈ ax_TT := ax_tt 103 rfl rfl
set_option maxRecDepth 20000 in
theorem tw_104 : Cond.fieldLink "RunOrder$Actions" 49 "RunOrder$Actions" "count" "I" ∈ ax_TT := ax_tt 104 rfl rfl
set_option maxRecDepth 20000 in
theorem tw_105 : Cond.fieldLink "RunOrder$Run" 82 "RunOrder$Actions" "count" "I" ∈ ax_TT := ax_tt 105 rfl rfl
set_option maxRecDepth 20000 in
theorem tw_106 : Cond.fieldLink "RunOrder$Actions" 9 "RunOrder$Actions" "time" "[I" ∈ ax_TT := ax_tt 106 rfl rfl
set_option maxRecDepth 20000 in
theorem tw_107 : Cond.fieldLink "RunOrder$Run" 186 "RunOrder$Actions" "time" "[I" ∈ ax_TT := ax_tt 107 rfl rfl
set_option maxRecDepth 20000 in
theorem tw_108 : Cond.fieldLink "RunOrder$Actions" 15 "RunOrder$Actions" "cores" "[I" ∈ ax_TT := ax_tt 108 rfl rfl
set_option maxRecDepth 20000 in
theorem tw_109 : Cond.fieldLink "RunOrder$Run" 110 "RunOrder$Actions" "cores" "[I" ∈ ax_TT := ax_tt 109 rfl rfl
set_option maxRecDepth 20000 in
theorem tw_110 : Cond.fieldLink "RunOrder$Actions" 18 "RunOrder$Actions" "memory" "[I" ∈ ax_TT := ax_tt 110 rfl rfl
set_option maxRecDepth 20000 in
theorem tw_111 : Cond.fieldLink "RunOrder$Run" 113 "RunOrder$Actions" "memory" "[I" ∈ ax_TT := ax_tt 111 rfl rfl
set_option maxRecDepth 20000 in
theorem tw_112 : Cond.fieldLink "RunOrder$Actions" 21 "RunOrder$Actions" "locks" "[I" ∈ ax_TT := ax_tt 112 rfl rfl
set_option maxRecDepth 20000 in
theorem tw_113 : Cond.fieldLink "RunOrder" 65 "RunOrder$Actions" "locks" "[I" ∈ ax_TT := ax_tt 113 rfl rfl
set_option maxRecDepth 20000 in
theorem tw_114 : Cond.fieldLink "RunOrder$Run" 133 "RunOrder$Actions" "locks" "[I" ∈ ax_TT := ax_tt 114 rfl rfl
set_option maxRecDepth 20000 in
theorem tw_115 : Cond.fieldLink "RunOrder$Actions" 24 "RunOrder$Actions" "farTime" "[I" ∈ ax_TT := ax_tt 115 rfl rfl
set_option maxRecDepth 20000 in
theorem tw_116 : Cond.fieldLink "RunOrder" 69 "RunOrder$Actions" "farTime" "[I" ∈ ax_TT := ax_tt 116 rfl rfl
set_option maxRecDepth 20000 in
theorem tw_117 : Cond.fieldLink "RunOrder$Run" 189 "RunOrder$Actions" "farTime" "[I" ∈ ax_TT := ax_tt 117 rfl rfl
set_option maxRecDepth 20000 in
theorem tw_118 : Cond.fieldLink "RunOrder$Actions" 27 "RunOrder$Actions" "failing" "[I" ∈ ax_TT := ax_tt 118 rfl rfl
set_option maxRecDepth 20000 in
theorem tw_119 : Cond.fieldLink "RunOrder" 72 "RunOrder$Actions" "failing" "[I" ∈ ax_TT := ax_tt 119 rfl rfl
set_option maxRecDepth 20000 in
theorem tw_120 : Cond.fieldLink "RunOrder$Run" 126 "RunOrder$Actions" "failing" "[I" ∈ ax_TT := ax_tt 120 rfl rfl
set_option maxRecDepth 20000 in
theorem tw_121 : Cond.fieldLink "RunOrder$Actions" 30 "RunOrder$Actions" "kind" "[I" ∈ ax_TT := ax_tt 121 rfl rfl
set_option maxRecDepth 20000 in
theorem tw_122 : Cond.fieldLink "RunOrder" 75 "RunOrder$Actions" "kind" "[I" ∈ ax_TT := ax_tt 122 rfl rfl
set_option maxRecDepth 20000 in
theorem tw_123 : Cond.fieldLink "RunOrder$Run" 145 "RunOrder$Actions" "kind" "[I" ∈ ax_TT := ax_tt 123 rfl rfl
set_option maxRecDepth 20000 in
theorem tw_124 : Cond.fieldLink "RunOrder$Actions" 33 "RunOrder$Actions" "test" "[Z" ∈ ax_TT := ax_tt 124 rfl rfl
set_option maxRecDepth 20000 in
theorem tw_125 : Cond.fieldLink "RunOrder" 61 "RunOrder$Actions" "test" "[Z" ∈ ax_TT := ax_tt 125 rfl rfl
set_option maxRecDepth 20000 in
theorem tw_126 : Cond.fieldLink "RunOrder$Run" 177 "RunOrder$Actions" "test" "[Z" ∈ ax_TT := ax_tt 126 rfl rfl
set_option maxRecDepth 20000 in
theorem tw_127 : Cond.fieldLink "RunOrder$Actions" 37 "RunOrder$Actions" "wished" "[Z" ∈ ax_TT := ax_tt 127 rfl rfl
set_option maxRecDepth 20000 in
theorem tw_128 : Cond.fieldLink "RunOrder" 82 "RunOrder$Actions" "wished" "[Z" ∈ ax_TT := ax_tt 128 rfl rfl
set_option maxRecDepth 20000 in
theorem tw_129 : Cond.fieldLink "RunOrder$Actions" 40 "RunOrder$Actions" "needed" "[I" ∈ ax_TT := ax_tt 129 rfl rfl
set_option maxRecDepth 20000 in
theorem tw_130 : Cond.fieldLink "RunOrder$Run" 154 "RunOrder$Actions" "needed" "[I" ∈ ax_TT := ax_tt 130 rfl rfl
set_option maxRecDepth 20000 in
theorem tw_131 : Cond.fieldLink "RunOrder$Actions" 43 "RunOrder$Actions" "neededDeep" "[I" ∈ ax_TT := ax_tt 131 rfl rfl
set_option maxRecDepth 20000 in
theorem tw_132 : Cond.fieldLink "RunOrder$Actions" 46 "RunOrder$Actions" "rests" "[I" ∈ ax_TT := ax_tt 132 rfl rfl
set_option maxRecDepth 20000 in
theorem tw_133 : Cond.fieldLink "RunOrder" 106 "RunOrder$Actions" "rests" "[I" ∈ ax_TT := ax_tt 133 rfl rfl
set_option maxRecDepth 20000 in
theorem tw_134 : Cond.fieldLink "RunOrder$Run" 180 "RunOrder$Actions" "rests" "[I" ∈ ax_TT := ax_tt 134 rfl rfl
set_option maxRecDepth 20000 in
theorem tw_135 : Cond.lays "RunOrder$Actions" "RunOrder$Actions" "count" "I" ∈ ax_TT := ax_tt 135 rfl rfl
set_option maxRecDepth 20000 in
theorem tw_137 : Cond.laysFinal "RunOrder$Actions" "RunOrder$Actions" "time" "[I" ∈ ax_TT := ax_tt 137 rfl rfl
set_option maxRecDepth 20000 in
theorem tw_139 : Cond.laysFinal "RunOrder$Actions" "RunOrder$Actions" "cores" "[I" ∈ ax_TT := ax_tt 139 rfl rfl
set_option maxRecDepth 20000 in
theorem tw_141 : Cond.laysFinal "RunOrder$Actions" "RunOrder$Actions" "memory" "[I" ∈ ax_TT := ax_tt 141 rfl rfl
set_option maxRecDepth 20000 in
theorem tw_143 : Cond.laysFinal "RunOrder$Actions" "RunOrder$Actions" "locks" "[I" ∈ ax_TT := ax_tt 143 rfl rfl
set_option maxRecDepth 20000 in
theorem tw_145 : Cond.laysFinal "RunOrder$Actions" "RunOrder$Actions" "farTime" "[I" ∈ ax_TT := ax_tt 145 rfl rfl
set_option maxRecDepth 20000 in
theorem tw_147 : Cond.laysFinal "RunOrder$Actions" "RunOrder$Actions" "failing" "[I" ∈ ax_TT := ax_tt 147 rfl rfl
set_option maxRecDepth 20000 in
theorem tw_149 : Cond.laysFinal "RunOrder$Actions" "RunOrder$Actions" "kind" "[I" ∈ ax_TT := ax_tt 149 rfl rfl
set_option maxRecDepth 20000 in
theorem tw_151 : Cond.laysFinal "RunOrder$Actions" "RunOrder$Actions" "test" "[Z" ∈ ax_TT := ax_tt 151 rfl rfl
set_option maxRecDepth 20000 in
theorem tw_153 : Cond.laysFinal "RunOrder$Actions" "RunOrder$Actions" "wished" "[Z" ∈ ax_TT := ax_tt 153 rfl rfl
set_option maxRecDepth 20000 in
theorem tw_155 : Cond.laysFinal "RunOrder$Actions" "RunOrder$Actions" "needed" "[I" ∈ ax_TT := ax_tt 155 rfl rfl
set_option maxRecDepth 20000 in
theorem tw_157 : Cond.laysFinal "RunOrder$Actions" "RunOrder$Actions" "neededDeep" "[I" ∈ ax_TT := ax_tt 157 rfl rfl
set_option maxRecDepth 20000 in
theorem tw_159 : Cond.laysFinal "RunOrder$Actions" "RunOrder$Actions" "rests" "[I" ∈ ax_TT := ax_tt 159 rfl rfl
set_option maxRecDepth 20000 in
theorem tw_162 : Cond.arrayClass .int ∈ ax_TT := ax_tt 162 rfl rfl
set_option maxRecDepth 20000 in
theorem tw_163 : Cond.arrayClass .boolean ∈ ax_TT := ax_tt 163 rfl rfl
set_option maxRecDepth 20000 in
theorem tw_164 : Cond.classLink "RunOrder" 30 "RunOrder$Rules" ∈ ax_TT := ax_tt 164 rfl rfl
set_option maxRecDepth 20000 in
theorem tw_165 : Cond.instantiable "RunOrder$Rules" 2 ∈ ax_TT := ax_tt 165 rfl rfl
set_option maxRecDepth 20000 in
theorem tw_167 : Cond.instanceMethod ⟨"RunOrder$Rules", "<init>", "()V"⟩ ∈ ax_TT := ax_tt 167 rfl rfl
set_option maxRecDepth 20000 in
theorem tw_168 : Cond.code ⟨"RunOrder$Rules", "<init>", "()V"⟩ prog_4_method_1_code 1 none ∈ ax_TT := ax_tt 168 rfl rfl
set_option maxRecDepth 20000 in
theorem tw_169 : Cond.methodLink "RunOrder$Rules" 3 ⟨"java/lang/Object", "<init>", "()V"⟩ ∈ ax_TT := ax_tt 169 rfl rfl
set_option maxRecDepth 20000 in
theorem tw_170 : Cond.fieldLink "RunOrder$Rules" 9 "RunOrder$Rules" "on" "[Z" ∈ ax_TT := ax_tt 170 rfl rfl
set_option maxRecDepth 20000 in
theorem tw_171 : Cond.fieldLink "RunOrder$Run" 58 "RunOrder$Rules" "on" "[Z" ∈ ax_TT := ax_tt 171 rfl rfl
set_option maxRecDepth 20000 in
theorem tw_172 : Cond.fieldLink "RunOrder" 85 "RunOrder$Rules" "on" "[Z" ∈ ax_TT := ax_tt 172 rfl rfl
set_option maxRecDepth 20000 in
theorem tw_173 : Cond.fieldLink "RunOrder$Rules" 15 "RunOrder$Rules" "again" "[I" ∈ ax_TT := ax_tt 173 rfl rfl
set_option maxRecDepth 20000 in
theorem tw_174 : Cond.fieldLink "RunOrder" 88 "RunOrder$Rules" "again" "[I" ∈ ax_TT := ax_tt 174 rfl rfl
set_option maxRecDepth 20000 in
theorem tw_175 : Cond.fieldLink "RunOrder$Run" 142 "RunOrder$Rules" "again" "[I" ∈ ax_TT := ax_tt 175 rfl rfl
set_option maxRecDepth 20000 in
theorem tw_176 : Cond.laysFinal "RunOrder$Rules" "RunOrder$Rules" "on" "[Z" ∈ ax_TT := ax_tt 176 rfl rfl
set_option maxRecDepth 20000 in
theorem tw_178 : Cond.laysFinal "RunOrder$Rules" "RunOrder$Rules" "again" "[I" ∈ ax_TT := ax_tt 178 rfl rfl
set_option maxRecDepth 20000 in
theorem tw_181 : Cond.classLink "RunOrder" 37 "RunOrder$Run" ∈ ax_TT := ax_tt 181 rfl rfl
set_option maxRecDepth 20000 in
theorem tw_182 : Cond.instantiable "RunOrder$Run" 13 ∈ ax_TT := ax_tt 182 rfl rfl
set_option maxRecDepth 20000 in
theorem tw_183 : Cond.methodLink "RunOrder" 39 ⟨"RunOrder$Run", "<init>", "(LRunOrder$House;LRunOrder$Actions;LRunOrder$Rules;)V"⟩ ∈ ax_TT := ax_tt 183 rfl rfl
set_option maxRecDepth 20000 in
theorem tw_184 : Cond.instanceMethod ⟨"RunOrder$Run", "<init>", "(LRunOrder$House;LRunOrder$Actions;LRunOrder$Rules;)V"⟩ ∈ ax_TT := ax_tt 184 rfl rfl
set_option maxRecDepth 20000 in
theorem tw_185 : Cond.code ⟨"RunOrder$Run", "<init>", "(LRunOrder$House;LRunOrder$Actions;LRunOrder$Rules;)V"⟩ prog_5_method_1_code 4 none ∈ ax_TT := ax_tt 185 rfl rfl
set_option maxRecDepth 20000 in
theorem tw_186 : Cond.methodLink "RunOrder$Run" 3 ⟨"java/lang/Object", "<init>", "()V"⟩ ∈ ax_TT := ax_tt 186 rfl rfl
set_option maxRecDepth 20000 in
theorem tw_187 : Cond.fieldLink "RunOrder$Run" 36 "RunOrder$Run" "house" "LRunOrder$House;" ∈ ax_TT := ax_tt 187 rfl rfl
set_option maxRecDepth 20000 in
theorem tw_188 : Cond.fieldLink "RunOrder$Run" 40 "RunOrder$Run" "actions" "LRunOrder$Actions;" ∈ ax_TT := ax_tt 188 rfl rfl
set_option maxRecDepth 20000 in
theorem tw_189 : Cond.fieldLink "RunOrder$Run" 44 "RunOrder$Run" "rules" "LRunOrder$Rules;" ∈ ax_TT := ax_tt 189 rfl rfl
set_option maxRecDepth 20000 in
theorem tw_190 : Cond.fieldLink "RunOrder$Run" 78 "RunOrder$Run" "happened" "Z" ∈ ax_TT := ax_tt 190 rfl rfl
set_option maxRecDepth 20000 in
theorem tw_191 : Cond.fieldLink "RunOrder$Run" 9 "RunOrder$Run" "state" "[I" ∈ ax_TT := ax_tt 191 rfl rfl
set_option maxRecDepth 20000 in
theorem tw_192 : Cond.fieldLink "RunOrder$Run" 15 "RunOrder$Run" "firstBegan" "[I" ∈ ax_TT := ax_tt 192 rfl rfl
set_option maxRecDepth 20000 in
theorem tw_193 : Cond.fieldLink "RunOrder$Run" 18 "RunOrder$Run" "lastEnded" "[I" ∈ ax_TT := ax_tt 193 rfl rfl
set_option maxRecDepth 20000 in
theorem tw_194 : Cond.fieldLink "RunOrder$Run" 21 "RunOrder$Run" "tries" "[I" ∈ ax_TT := ax_tt 194 rfl rfl
set_option maxRecDepth 20000 in
theorem tw_195 : Cond.fieldLink "RunOrder$Run" 24 "RunOrder$Run" "doneBy" "[I" ∈ ax_TT := ax_tt 195 rfl rfl
set_option maxRecDepth 20000 in
theorem tw_196 : Cond.fieldLink "RunOrder$Run" 27 "RunOrder$Run" "endHere" "[I" ∈ ax_TT := ax_tt 196 rfl rfl
set_option maxRecDepth 20000 in
theorem tw_197 : Cond.fieldLink "RunOrder$Run" 30 "RunOrder$Run" "endFar" "[I" ∈ ax_TT := ax_tt 197 rfl rfl
set_option maxRecDepth 20000 in
theorem tw_198 : Cond.fieldLink "RunOrder$Run" 33 "RunOrder$Run" "begun" "[I" ∈ ax_TT := ax_tt 198 rfl rfl
set_option maxRecDepth 20000 in
theorem tw_199 : Cond.fieldLink "RunOrder$Run" 88 "RunOrder$Run" "begins" "I" ∈ ax_TT := ax_tt 199 rfl rfl
set_option maxRecDepth 20000 in
theorem tw_200 : Cond.laysFinal "RunOrder$Run" "RunOrder$Run" "house" "LRunOrder$House;" ∈ ax_TT := ax_tt 200 rfl rfl
set_option maxRecDepth 20000 in
theorem tw_202 : Cond.laysFinal "RunOrder$Run" "RunOrder$Run" "actions" "LRunOrder$Actions;" ∈ ax_TT := ax_tt 202 rfl rfl
set_option maxRecDepth 20000 in
theorem tw_204 : Cond.laysFinal "RunOrder$Run" "RunOrder$Run" "rules" "LRunOrder$Rules;" ∈ ax_TT := ax_tt 204 rfl rfl
set_option maxRecDepth 20000 in
theorem tw_206 : Cond.lays "RunOrder$Run" "RunOrder$Run" "happened" "Z" ∈ ax_TT := ax_tt 206 rfl rfl
set_option maxRecDepth 20000 in
theorem tw_208 : Cond.laysFinal "RunOrder$Run" "RunOrder$Run" "state" "[I" ∈ ax_TT := ax_tt 208 rfl rfl
set_option maxRecDepth 20000 in
theorem tw_210 : Cond.laysFinal "RunOrder$Run" "RunOrder$Run" "firstBegan" "[I" ∈ ax_TT := ax_tt 210 rfl rfl
set_option maxRecDepth 20000 in
theorem tw_212 : Cond.laysFinal "RunOrder$Run" "RunOrder$Run" "lastEnded" "[I" ∈ ax_TT := ax_tt 212 rfl rfl
set_option maxRecDepth 20000 in
theorem tw_214 : Cond.laysFinal "RunOrder$Run" "RunOrder$Run" "tries" "[I" ∈ ax_TT := ax_tt 214 rfl rfl
set_option maxRecDepth 20000 in
theorem tw_216 : Cond.laysFinal "RunOrder$Run" "RunOrder$Run" "doneBy" "[I" ∈ ax_TT := ax_tt 216 rfl rfl
set_option maxRecDepth 20000 in
theorem tw_218 : Cond.laysFinal "RunOrder$Run" "RunOrder$Run" "endHere" "[I" ∈ ax_TT := ax_tt 218 rfl rfl
set_option maxRecDepth 20000 in
theorem tw_220 : Cond.laysFinal "RunOrder$Run" "RunOrder$Run" "endFar" "[I" ∈ ax_TT := ax_tt 220 rfl rfl
set_option maxRecDepth 20000 in
theorem tw_222 : Cond.laysFinal "RunOrder$Run" "RunOrder$Run" "begun" "[I" ∈ ax_TT := ax_tt 222 rfl rfl
set_option maxRecDepth 20000 in
theorem tw_224 : Cond.lays "RunOrder$Run" "RunOrder$Run" "begins" "I" ∈ ax_TT := ax_tt 224 rfl rfl
set_option maxRecDepth 20000 in
theorem tw_227 : Cond.fieldLink "RunOrder" 19 "RunOrder" "house" "LRunOrder$House;" ∈ ax_TT := ax_tt 227 rfl rfl
set_option maxRecDepth 20000 in
theorem tw_228 : Cond.fieldLink "RunOrder" 26 "RunOrder" "actions" "LRunOrder$Actions;" ∈ ax_TT := ax_tt 228 rfl rfl
set_option maxRecDepth 20000 in
theorem tw_229 : Cond.fieldLink "RunOrder" 33 "RunOrder" "rules" "LRunOrder$Rules;" ∈ ax_TT := ax_tt 229 rfl rfl
set_option maxRecDepth 20000 in
theorem tw_230 : Cond.fieldLink "RunOrder" 42 "RunOrder" "latest" "LRunOrder$Run;" ∈ ax_TT := ax_tt 230 rfl rfl
set_option maxRecDepth 20000 in
theorem tw_231 : Cond.laysFinal "RunOrder" "RunOrder" "house" "LRunOrder$House;" ∈ ax_TT := ax_tt 231 rfl rfl
set_option maxRecDepth 20000 in
theorem tw_233 : Cond.laysFinal "RunOrder" "RunOrder" "actions" "LRunOrder$Actions;" ∈ ax_TT := ax_tt 233 rfl rfl
set_option maxRecDepth 20000 in
theorem tw_235 : Cond.laysFinal "RunOrder" "RunOrder" "rules" "LRunOrder$Rules;" ∈ ax_TT := ax_tt 235 rfl rfl
set_option maxRecDepth 20000 in
theorem tw_237 : Cond.laysFinal "RunOrder" "RunOrder" "latest" "LRunOrder$Run;" ∈ ax_TT := ax_tt 237 rfl rfl
set_option maxRecDepth 20000 in
theorem tw_243 : Cond.code ⟨"RunOrder", "slots", "(I)Z"⟩ prog_1_method_2_code 2 (some .boolean) ∈ ax_TT := ax_tt 243 rfl rfl
set_option maxRecDepth 20000 in
theorem tw_244 : Cond.methodLink "RunOrder" 46 ⟨"RunOrder", "within", "(III)Z"⟩ ∈ ax_TT := ax_tt 244 rfl rfl
set_option maxRecDepth 20000 in
theorem tw_245 : Cond.static ⟨"RunOrder", "within", "(III)Z"⟩ ∈ ax_TT := ax_tt 245 rfl rfl
set_option maxRecDepth 20000 in
theorem tw_246 : Cond.code ⟨"RunOrder", "within", "(III)Z"⟩ prog_1_method_16_code 3 (some .boolean) ∈ ax_TT := ax_tt 246 rfl rfl
set_option maxRecDepth 20000 in
theorem tw_250 : Cond.code ⟨"RunOrder", "action", "(III)I"⟩ prog_1_method_3_code 5 (some .int) ∈ ax_TT := ax_tt 250 rfl rfl
set_option maxRecDepth 20000 in
theorem tw_251 : Cond.methodLink "RunOrder" 54 ⟨"RunOrder$Actions", "add", "(III)I"⟩ ∈ ax_TT := ax_tt 251 rfl rfl
set_option maxRecDepth 20000 in
theorem tw_252 : Cond.instanceMethod ⟨"RunOrder$Actions", "add", "(III)I"⟩ ∈ ax_TT := ax_tt 252 rfl rfl
set_option maxRecDepth 20000 in
theorem tw_253 : Cond.selects "RunOrder$Actions" ⟨"RunOrder$Actions", "add", "(III)I"⟩ ⟨"RunOrder$Actions", "add", "(III)I"⟩ ∈ ax_TT := ax_tt 253 rfl rfl
set_option maxRecDepth 20000 in
theorem tw_254 : Cond.code ⟨"RunOrder$Actions", "add", "(III)I"⟩ prog_2_method_3_code 4 (some .int) ∈ ax_TT := ax_tt 254 rfl rfl
set_option maxRecDepth 20000 in
theorem tw_258 : Cond.code ⟨"RunOrder", "about", "(IZII)Z"⟩ prog_1_method_4_code 5 (some .boolean) ∈ ax_TT := ax_tt 258 rfl rfl
set_option maxRecDepth 20000 in
theorem tw_259 : Cond.methodLink "RunOrder" 57 ⟨"RunOrder$Actions", "has", "(I)Z"⟩ ∈ ax_TT := ax_tt 259 rfl rfl
set_option maxRecDepth 20000 in
theorem tw_260 : Cond.instanceMethod ⟨"RunOrder$Actions", "has", "(I)Z"⟩ ∈ ax_TT := ax_tt 260 rfl rfl
set_option maxRecDepth 20000 in
theorem tw_261 : Cond.selects "RunOrder$Actions" ⟨"RunOrder$Actions", "has", "(I)Z"⟩ ⟨"RunOrder$Actions", "has", "(I)Z"⟩ ∈ ax_TT := ax_tt 261 rfl rfl
set_option maxRecDepth 20000 in
theorem tw_262 : Cond.code ⟨"RunOrder$Actions", "has", "(I)Z"⟩ prog_2_method_2_code 2 (some .boolean) ∈ ax_TT := ax_tt 262 rfl rfl
set_option maxRecDepth 20000 in
theorem tw_266 : Cond.code ⟨"RunOrder", "fails", "(III)Z"⟩ prog_1_method_5_code 4 (some .boolean) ∈ ax_TT := ax_tt 266 rfl rfl
set_option maxRecDepth 20000 in
theorem tw_270 : Cond.code ⟨"RunOrder", "needs", "(II)I"⟩ prog_1_method_6_code 3 (some .int) ∈ ax_TT := ax_tt 270 rfl rfl
set_option maxRecDepth 20000 in
theorem tw_271 : Cond.methodLink "RunOrder" 78 ⟨"RunOrder$Actions", "join", "(II)I"⟩ ∈ ax_TT := ax_tt 271 rfl rfl
set_option maxRecDepth 20000 in
theorem tw_272 : Cond.instanceMethod ⟨"RunOrder$Actions", "join", "(II)I"⟩ ∈ ax_TT := ax_tt 272 rfl rfl
set_option maxRecDepth 20000 in
theorem tw_273 : Cond.selects "RunOrder$Actions" ⟨"RunOrder$Actions", "join", "(II)I"⟩ ⟨"RunOrder$Actions", "join", "(II)I"⟩ ∈ ax_TT := ax_tt 273 rfl rfl
set_option maxRecDepth 20000 in
theorem tw_274 : Cond.code ⟨"RunOrder$Actions", "join", "(II)I"⟩ prog_2_method_4_code 5 (some .int) ∈ ax_TT := ax_tt 274 rfl rfl
set_option maxRecDepth 20000 in
theorem tw_276 : Cond.static ⟨"RunOrder", "isIn", "(II)Z"⟩ ∈ ax_TT := ax_tt 276 rfl rfl
set_option maxRecDepth 20000 in
theorem tw_277 : Cond.code ⟨"RunOrder", "isIn", "(II)Z"⟩ prog_1_method_19_code 2 (some .boolean) ∈ ax_TT := ax_tt 277 rfl rfl
set_option maxRecDepth 20000 in
theorem tw_278 : Cond.methodLink "RunOrder" 133 ⟨"RunOrder", "only", "(I)I"⟩ ∈ ax_TT := ax_tt 278 rfl rfl
set_option maxRecDepth 20000 in
theorem tw_279 : Cond.static ⟨"RunOrder", "only", "(I)I"⟩ ∈ ax_TT := ax_tt 279 rfl rfl
set_option maxRecDepth 20000 in
theorem tw_280 : Cond.code ⟨"RunOrder", "only", "(I)I"⟩ prog_1_method_18_code 1 (some .int) ∈ ax_TT := ax_tt 280 rfl rfl
set_option maxRecDepth 20000 in
theorem tw_285 : Cond.code ⟨"RunOrder", "wish", "(IZ)Z"⟩ prog_1_method_7_code 3 (some .boolean) ∈ ax_TT := ax_tt 285 rfl rfl
set_option maxRecDepth 20000 in
theorem tw_289 : Cond.code ⟨"RunOrder", "mode", "(IZ)Z"⟩ prog_1_method_8_code 3 (some .boolean) ∈ ax_TT := ax_tt 289 rfl rfl
set_option maxRecDepth 20000 in
theorem tw_293 : Cond.code ⟨"RunOrder", "retries", "(II)Z"⟩ prog_1_method_9_code 3 (some .boolean) ∈ ax_TT := ax_tt 293 rfl rfl
set_option maxRecDepth 20000 in
theorem tw_297 : Cond.code ⟨"RunOrder", "run", "()I"⟩ prog_1_method_10_code 1 (some .int) ∈ ax_TT := ax_tt 297 rfl rfl
set_option maxRecDepth 20000 in
theorem tw_298 : Cond.methodLink "RunOrder" 91 ⟨"RunOrder$Run", "goThrough", "()I"⟩ ∈ ax_TT := ax_tt 298 rfl rfl
set_option maxRecDepth 20000 in
theorem tw_299 : Cond.instanceMethod ⟨"RunOrder$Run", "goThrough", "()I"⟩ ∈ ax_TT := ax_tt 299 rfl rfl
set_option maxRecDepth 20000 in
theorem tw_300 : Cond.selects "RunOrder$Run" ⟨"RunOrder$Run", "goThrough", "()I"⟩ ⟨"RunOrder$Run", "goThrough", "()I"⟩ ∈ ax_TT := ax_tt 300 rfl rfl
set_option maxRecDepth 20000 in
theorem tw_301 : Cond.code ⟨"RunOrder$Run", "goThrough", "()I"⟩ prog_5_method_2_code 4 (some .int) ∈ ax_TT := ax_tt 301 rfl rfl
set_option maxRecDepth 20000 in
theorem tw_302 : Cond.methodLink "RunOrder$Run" 48 ⟨"RunOrder$Run", "prepare", "()V"⟩ ∈ ax_TT := ax_tt 302 rfl rfl
set_option maxRecDepth 20000 in
theorem tw_304 : Cond.instanceMethod ⟨"RunOrder$Run", "prepare", "()V"⟩ ∈ ax_TT := ax_tt 304 rfl rfl
set_option maxRecDepth 20000 in
theorem tw_305 : Cond.code ⟨"RunOrder$Run", "prepare", "()V"⟩ prog_5_method_6_code 3 none ∈ ax_TT := ax_tt 305 rfl rfl
set_option maxRecDepth 20000 in
theorem tw_306 : Cond.methodLink "RunOrder$Run" 91 ⟨"RunOrder$House", "clear", "()V"⟩ ∈ ax_TT := ax_tt 306 rfl rfl
set_option maxRecDepth 20000 in
theorem tw_307 : Cond.instanceMethod ⟨"RunOrder$House", "clear", "()V"⟩ ∈ ax_TT := ax_tt 307 rfl rfl
set_option maxRecDepth 20000 in
theorem tw_308 : Cond.selects "RunOrder$House" ⟨"RunOrder$House", "clear", "()V"⟩ ⟨"RunOrder$House", "clear", "()V"⟩ ∈ ax_TT := ax_tt 308 rfl rfl
set_option maxRecDepth 20000 in
theorem tw_309 : Cond.code ⟨"RunOrder$House", "clear", "()V"⟩ prog_3_method_2_code 1 none ∈ ax_TT := ax_tt 309 rfl rfl
set_option maxRecDepth 20000 in
theorem tw_310 : Cond.methodLink "RunOrder$Run" 96 ⟨"RunOrder$Actions", "wanted", "()I"⟩ ∈ ax_TT := ax_tt 310 rfl rfl
set_option maxRecDepth 20000 in
theorem tw_311 : Cond.instanceMethod ⟨"RunOrder$Actions", "wanted", "()I"⟩ ∈ ax_TT := ax_tt 311 rfl rfl
set_option maxRecDepth 20000 in
theorem tw_312 : Cond.selects "RunOrder$Actions" ⟨"RunOrder$Actions", "wanted", "()I"⟩ ⟨"RunOrder$Actions", "wanted", "()I"⟩ ∈ ax_TT := ax_tt 312 rfl rfl
set_option maxRecDepth 20000 in
theorem tw_313 : Cond.code ⟨"RunOrder$Actions", "wanted", "()I"⟩ prog_2_method_5_code 3 (some .int) ∈ ax_TT := ax_tt 313 rfl rfl
set_option maxRecDepth 20000 in
theorem tw_314 : Cond.methodLink "RunOrder$Run" 99 ⟨"RunOrder$Actions", "measureRests", "(I)V"⟩ ∈ ax_TT := ax_tt 314 rfl rfl
set_option maxRecDepth 20000 in
theorem tw_315 : Cond.instanceMethod ⟨"RunOrder$Actions", "measureRests", "(I)V"⟩ ∈ ax_TT := ax_tt 315 rfl rfl
set_option maxRecDepth 20000 in
theorem tw_316 : Cond.selects "RunOrder$Actions" ⟨"RunOrder$Actions", "measureRests", "(I)V"⟩ ⟨"RunOrder$Actions", "measureRests", "(I)V"⟩ ∈ ax_TT := ax_tt 316 rfl rfl
set_option maxRecDepth 20000 in
theorem tw_317 : Cond.code ⟨"RunOrder$Actions", "measureRests", "(I)V"⟩ prog_2_method_6_code 6 none ∈ ax_TT := ax_tt 317 rfl rfl
set_option maxRecDepth 20000 in
theorem tw_318 : Cond.methodLink "RunOrder$Actions" 61 ⟨"RunOrder$Actions", "greatestRestAbove", "(II)I"⟩ ∈ ax_TT := ax_tt 318 rfl rfl
set_option maxRecDepth 20000 in
theorem tw_320 : Cond.instanceMethod ⟨"RunOrder$Actions", "greatestRestAbove", "(II)I"⟩ ∈ ax_TT := ax_tt 320 rfl rfl
set_option maxRecDepth 20000 in
theorem tw_321 : Cond.code ⟨"RunOrder$Actions", "greatestRestAbove", "(II)I"⟩ prog_2_method_7_code 5 (some .int) ∈ ax_TT := ax_tt 321 rfl rfl
set_option maxRecDepth 20000 in
theorem tw_322 : Cond.methodLink "RunOrder$Actions" 65 ⟨"java/lang/Math", "max", "(II)I"⟩ ∈ ax_TT := ax_tt 322 rfl rfl
set_option maxRecDepth 20000 in
theorem tw_324 : Cond.methodLink "RunOrder$Run" 106 ⟨"RunOrder$Run", "stateAtFirst", "(I)I"⟩ ∈ ax_TT := ax_tt 324 rfl rfl
set_option maxRecDepth 20000 in
theorem tw_326 : Cond.instanceMethod ⟨"RunOrder$Run", "stateAtFirst", "(I)I"⟩ ∈ ax_TT := ax_tt 326 rfl rfl
set_option maxRecDepth 20000 in
theorem tw_327 : Cond.code ⟨"RunOrder$Run", "stateAtFirst", "(I)I"⟩ prog_5_method_7_code 2 (some .int) ∈ ax_TT := ax_tt 327 rfl rfl
set_option maxRecDepth 20000 in
theorem tw_328 : Cond.methodLink "RunOrder$Run" 116 ⟨"RunOrder$House", "isTooSmallFor", "(II)Z"⟩ ∈ ax_TT := ax_tt 328 rfl rfl
set_option maxRecDepth 20000 in
theorem tw_329 : Cond.instanceMethod ⟨"RunOrder$House", "isTooSmallFor", "(II)Z"⟩ ∈ ax_TT := ax_tt 329 rfl rfl
set_option maxRecDepth 20000 in
theorem tw_330 : Cond.selects "RunOrder$House" ⟨"RunOrder$House", "isTooSmallFor", "(II)Z"⟩ ⟨"RunOrder$House", "isTooSmallFor", "(II)Z"⟩ ∈ ax_TT := ax_tt 330 rfl rfl
set_option maxRecDepth 20000 in
theorem tw_331 : Cond.code ⟨"RunOrder$House", "isTooSmallFor", "(II)Z"⟩ prog_3_method_3_code 3 (some .boolean) ∈ ax_TT := ax_tt 331 rfl rfl
set_option maxRecDepth 20000 in
theorem tw_332 : Cond.methodLink "RunOrder$Run" 51 ⟨"RunOrder$Run", "endTries", "(I)V"⟩ ∈ ax_TT := ax_tt 332 rfl rfl
set_option maxRecDepth 20000 in
theorem tw_334 : Cond.instanceMethod ⟨"RunOrder$Run", "endTries", "(I)V"⟩ ∈ ax_TT := ax_tt 334 rfl rfl
set_option maxRecDepth 20000 in
theorem tw_335 : Cond.code ⟨"RunOrder$Run", "endTries", "(I)V"⟩ prog_5_method_8_code 3 none ∈ ax_TT := ax_tt 335 rfl rfl
set_option maxRecDepth 20000 in
theorem tw_336 : Cond.methodLink "RunOrder$Run" 119 ⟨"RunOrder$Run", "endTry", "(III)V"⟩ ∈ ax_TT := ax_tt 336 rfl rfl
set_option maxRecDepth 20000 in
theorem tw_338 : Cond.instanceMethod ⟨"RunOrder$Run", "endTry", "(III)V"⟩ ∈ ax_TT := ax_tt 338 rfl rfl
set_option maxRecDepth 20000 in
theorem tw_339 : Cond.code ⟨"RunOrder$Run", "endTry", "(III)V"⟩ prog_5_method_9_code 4 none ∈ ax_TT := ax_tt 339 rfl rfl
set_option maxRecDepth 20000 in
theorem tw_340 : Cond.methodLink "RunOrder$Run" 123 ⟨"RunOrder$Run", "leaveBothSides", "(I)V"⟩ ∈ ax_TT := ax_tt 340 rfl rfl
set_option maxRecDepth 20000 in
theorem tw_342 : Cond.instanceMethod ⟨"RunOrder$Run", "leaveBothSides", "(I)V"⟩ ∈ ax_TT := ax_tt 342 rfl rfl
set_option maxRecDepth 20000 in
theorem tw_343 : Cond.code ⟨"RunOrder$Run", "leaveBothSides", "(I)V"⟩ prog_5_method_10_code 2 none ∈ ax_TT := ax_tt 343 rfl rfl
set_option maxRecDepth 20000 in
theorem tw_344 : Cond.methodLink "RunOrder$Run" 136 ⟨"RunOrder$House", "giveBack", "(III)V"⟩ ∈ ax_TT := ax_tt 344 rfl rfl
set_option maxRecDepth 20000 in
theorem tw_345 : Cond.instanceMethod ⟨"RunOrder$House", "giveBack", "(III)V"⟩ ∈ ax_TT := ax_tt 345 rfl rfl
set_option maxRecDepth 20000 in
theorem tw_346 : Cond.selects "RunOrder$House" ⟨"RunOrder$House", "giveBack", "(III)V"⟩ ⟨"RunOrder$House", "giveBack", "(III)V"⟩ ∈ ax_TT := ax_tt 346 rfl rfl
set_option maxRecDepth 20000 in
theorem tw_347 : Cond.code ⟨"RunOrder$House", "giveBack", "(III)V"⟩ prog_3_method_7_code 4 none ∈ ax_TT := ax_tt 347 rfl rfl
set_option maxRecDepth 20000 in
theorem tw_348 : Cond.methodLink "RunOrder$Run" 129 ⟨"RunOrder$Run", "mayTryAgain", "(I)Z"⟩ ∈ ax_TT := ax_tt 348 rfl rfl
set_option maxRecDepth 20000 in
theorem tw_350 : Cond.instanceMethod ⟨"RunOrder$Run", "mayTryAgain", "(I)Z"⟩ ∈ ax_TT := ax_tt 350 rfl rfl
set_option maxRecDepth 20000 in
theorem tw_351 : Cond.code ⟨"RunOrder$Run", "mayTryAgain", "(I)Z"⟩ prog_5_method_11_code 3 (some .boolean) ∈ ax_TT := ax_tt 351 rfl rfl
set_option maxRecDepth 20000 in
theorem tw_352 : Cond.methodLink "RunOrder$Run" 64 ⟨"RunOrder$Run", "isOneBad", "()Z"⟩ ∈ ax_TT := ax_tt 352 rfl rfl
set_option maxRecDepth 20000 in
theorem tw_354 : Cond.instanceMethod ⟨"RunOrder$Run", "isOneBad", "()Z"⟩ ∈ ax_TT := ax_tt 354 rfl rfl
set_option maxRecDepth 20000 in
theorem tw_355 : Cond.code ⟨"RunOrder$Run", "isOneBad", "()Z"⟩ prog_5_method_12_code 1 (some .boolean) ∈ ax_TT := ax_tt 355 rfl rfl
set_option maxRecDepth 20000 in
theorem tw_356 : Cond.methodLink "RunOrder$Run" 148 ⟨"RunOrder$Run", "firstBad", "()I"⟩ ∈ ax_TT := ax_tt 356 rfl rfl
set_option maxRecDepth 20000 in
theorem tw_357 : Cond.instanceMethod ⟨"RunOrder$Run", "firstBad", "()I"⟩ ∈ ax_TT := ax_tt 357 rfl rfl
set_option maxRecDepth 20000 in
theorem tw_358 : Cond.selects "RunOrder$Run" ⟨"RunOrder$Run", "firstBad", "()I"⟩ ⟨"RunOrder$Run", "firstBad", "()I"⟩ ∈ ax_TT := ax_tt 358 rfl rfl
set_option maxRecDepth 20000 in
theorem tw_359 : Cond.code ⟨"RunOrder$Run", "firstBad", "()I"⟩ prog_5_method_4_code 2 (some .int) ∈ ax_TT := ax_tt 359 rfl rfl
set_option maxRecDepth 20000 in
theorem tw_360 : Cond.methodLink "RunOrder$Run" 55 ⟨"RunOrder$Run", "skipHindered", "()V"⟩ ∈ ax_TT := ax_tt 360 rfl rfl
set_option maxRecDepth 20000 in
theorem tw_362 : Cond.instanceMethod ⟨"RunOrder$Run", "skipHindered", "()V"⟩ ∈ ax_TT := ax_tt 362 rfl rfl
set_option maxRecDepth 20000 in
theorem tw_363 : Cond.code ⟨"RunOrder$Run", "skipHindered", "()V"⟩ prog_5_method_13_code 5 none ∈ ax_TT := ax_tt 363 rfl rfl
set_option maxRecDepth 20000 in
theorem tw_364 : Cond.methodLink "RunOrder$Run" 151 ⟨"RunOrder$Run", "allIn", "(I)I"⟩ ∈ ax_TT := ax_tt 364 rfl rfl
set_option maxRecDepth 20000 in
theorem tw_366 : Cond.instanceMethod ⟨"RunOrder$Run", "allIn", "(I)I"⟩ ∈ ax_TT := ax_tt 366 rfl rfl
set_option maxRecDepth 20000 in
theorem tw_367 : Cond.code ⟨"RunOrder$Run", "allIn", "(I)I"⟩ prog_5_method_14_code 4 (some .int) ∈ ax_TT := ax_tt 367 rfl rfl
set_option maxRecDepth 20000 in
theorem tw_369 : Cond.methodLink "RunOrder$Run" 68 ⟨"RunOrder$Run", "stopWaiting", "()V"⟩ ∈ ax_TT := ax_tt 369 rfl rfl
set_option maxRecDepth 20000 in
theorem tw_371 : Cond.instanceMethod ⟨"RunOrder$Run", "stopWaiting", "()V"⟩ ∈ ax_TT := ax_tt 371 rfl rfl
set_option maxRecDepth 20000 in
theorem tw_372 : Cond.code ⟨"RunOrder$Run", "stopWaiting", "()V"⟩ prog_5_method_15_code 2 none ∈ ax_TT := ax_tt 372 rfl rfl
set_option maxRecDepth 20000 in
theorem tw_373 : Cond.methodLink "RunOrder$Run" 71 ⟨"RunOrder$Run", "beginReady", "(I)V"⟩ ∈ ax_TT := ax_tt 373 rfl rfl
set_option maxRecDepth 20000 in
theorem tw_375 : Cond.instanceMethod ⟨"RunOrder$Run", "beginReady", "(I)V"⟩ ∈ ax_TT := ax_tt 375 rfl rfl
set_option maxRecDepth 20000 in
theorem tw_376 : Cond.code ⟨"RunOrder$Run", "beginReady", "(I)V"⟩ prog_5_method_16_code 5 none ∈ ax_TT := ax_tt 376 rfl rfl
set_option maxRecDepth 20000 in
theorem tw_377 : Cond.methodLink "RunOrder$Run" 160 ⟨"RunOrder$Run", "allReady", "()I"⟩ ∈ ax_TT := ax_tt 377 rfl rfl
set_option maxRecDepth 20000 in
theorem tw_379 : Cond.instanceMethod ⟨"RunOrder$Run", "allReady", "()I"⟩ ∈ ax_TT := ax_tt 379 rfl rfl
set_option maxRecDepth 20000 in
theorem tw_380 : Cond.code ⟨"RunOrder$Run", "allReady", "()I"⟩ prog_5_method_17_code 6 (some .int) ∈ ax_TT := ax_tt 380 rfl rfl
set_option maxRecDepth 20000 in
theorem tw_381 : Cond.methodLink "RunOrder$Run" 174 ⟨"RunOrder$Run", "isOtherThanTestLeft", "()Z"⟩ ∈ ax_TT := ax_tt 381 rfl rfl
set_option maxRecDepth 20000 in
theorem tw_383 : Cond.instanceMethod ⟨"RunOrder$Run", "isOtherThanTestLeft", "()Z"⟩ ∈ ax_TT := ax_tt 383 rfl rfl
set_option maxRecDepth 20000 in
theorem tw_384 : Cond.code ⟨"RunOrder$Run", "isOtherThanTestLeft", "()Z"⟩ prog_5_method_18_code 2 (some .boolean) ∈ ax_TT := ax_tt 384 rfl rfl
set_option maxRecDepth 20000 in
theorem tw_385 : Cond.methodLink "RunOrder$Run" 163 ⟨"RunOrder$Run", "foremost", "(I)I"⟩ ∈ ax_TT := ax_tt 385 rfl rfl
set_option maxRecDepth 20000 in
theorem tw_387 : Cond.instanceMethod ⟨"RunOrder$Run", "foremost", "(I)I"⟩ ∈ ax_TT := ax_tt 387 rfl rfl
set_option maxRecDepth 20000 in
theorem tw_388 : Cond.code ⟨"RunOrder$Run", "foremost", "(I)I"⟩ prog_5_method_19_code 4 (some .int) ∈ ax_TT := ax_tt 388 rfl rfl
set_option maxRecDepth 20000 in
theorem tw_389 : Cond.methodLink "RunOrder$Run" 166 ⟨"RunOrder$House", "hasFree", "(III)Z"⟩ ∈ ax_TT := ax_tt 389 rfl rfl
set_option maxRecDepth 20000 in
theorem tw_390 : Cond.instanceMethod ⟨"RunOrder$House", "hasFree", "(III)Z"⟩ ∈ ax_TT := ax_tt 390 rfl rfl
set_option maxRecDepth 20000 in
theorem tw_391 : Cond.selects "RunOrder$House" ⟨"RunOrder$House", "hasFree", "(III)Z"⟩ ⟨"RunOrder$House", "hasFree", "(III)Z"⟩ ∈ ax_TT := ax_tt 391 rfl rfl
set_option maxRecDepth 20000 in
theorem tw_392 : Cond.code ⟨"RunOrder$House", "hasFree", "(III)Z"⟩ prog_3_method_4_code 4 (some .boolean) ∈ ax_TT := ax_tt 392 rfl rfl
set_option maxRecDepth 20000 in
theorem tw_393 : Cond.methodLink "RunOrder$Run" 170 ⟨"RunOrder$Run", "beginTry", "(II)V"⟩ ∈ ax_TT := ax_tt 393 rfl rfl
set_option maxRecDepth 20000 in
theorem tw_395 : Cond.instanceMethod ⟨"RunOrder$Run", "beginTry", "(II)V"⟩ ∈ ax_TT := ax_tt 395 rfl rfl
set_option maxRecDepth 20000 in
theorem tw_396 : Cond.code ⟨"RunOrder$Run", "beginTry", "(II)V"⟩ prog_5_method_20_code 3 none ∈ ax_TT := ax_tt 396 rfl rfl
set_option maxRecDepth 20000 in
theorem tw_397 : Cond.methodLink "RunOrder$Run" 183 ⟨"RunOrder$House", "take", "(III)V"⟩ ∈ ax_TT := ax_tt 397 rfl rfl
set_option maxRecDepth 20000 in
theorem tw_398 : Cond.instanceMethod ⟨"RunOrder$House", "take", "(III)V"⟩ ∈ ax_TT := ax_tt 398 rfl rfl
set_option maxRecDepth 20000 in
theorem tw_399 : Cond.selects "RunOrder$House" ⟨"RunOrder$House", "take", "(III)V"⟩ ⟨"RunOrder$House", "take", "(III)V"⟩ ∈ ax_TT := ax_tt 399 rfl rfl
set_option maxRecDepth 20000 in
theorem tw_400 : Cond.code ⟨"RunOrder$House", "take", "(III)V"⟩ prog_3_method_6_code 4 none ∈ ax_TT := ax_tt 400 rfl rfl
set_option maxRecDepth 20000 in
theorem tw_401 : Cond.methodLink "RunOrder$House" 37 ⟨"java/lang/Math", "max", "(II)I"⟩ ∈ ax_TT := ax_tt 401 rfl rfl
set_option maxRecDepth 20000 in
theorem tw_402 : Cond.methodLink "RunOrder$Run" 192 ⟨"RunOrder$House", "hasFreeSlot", "()Z"⟩ ∈ ax_TT := ax_tt 402 rfl rfl
set_option maxRecDepth 20000 in
theorem tw_403 : Cond.instanceMethod ⟨"RunOrder$House", "hasFreeSlot", "()Z"⟩ ∈ ax_TT := ax_tt 403 rfl rfl
set_option maxRecDepth 20000 in
theorem tw_404 : Cond.selects "RunOrder$House" ⟨"RunOrder$House", "hasFreeSlot", "()Z"⟩ ⟨"RunOrder$House", "hasFreeSlot", "()Z"⟩ ∈ ax_TT := ax_tt 404 rfl rfl
set_option maxRecDepth 20000 in
theorem tw_405 : Cond.code ⟨"RunOrder$House", "hasFreeSlot", "()Z"⟩ prog_3_method_5_code 1 (some .boolean) ∈ ax_TT := ax_tt 405 rfl rfl
set_option maxRecDepth 20000 in
theorem tw_406 : Cond.methodLink "RunOrder$Run" 74 ⟨"RunOrder$Run", "nextEnd", "()I"⟩ ∈ ax_TT := ax_tt 406 rfl rfl
set_option maxRecDepth 20000 in
theorem tw_408 : Cond.instanceMethod ⟨"RunOrder$Run", "nextEnd", "()I"⟩ ∈ ax_TT := ax_tt 408 rfl rfl
set_option maxRecDepth 20000 in
theorem tw_409 : Cond.code ⟨"RunOrder$Run", "nextEnd", "()I"⟩ prog_5_method_21_code 3 (some .int) ∈ ax_TT := ax_tt 409 rfl rfl
set_option maxRecDepth 20000 in
theorem tw_410 : Cond.methodLink "RunOrder$Run" 195 ⟨"RunOrder$Run", "sooner", "(II)I"⟩ ∈ ax_TT := ax_tt 410 rfl rfl
set_option maxRecDepth 20000 in
theorem tw_411 : Cond.static ⟨"RunOrder$Run", "sooner", "(II)I"⟩ ∈ ax_TT := ax_tt 411 rfl rfl
set_option maxRecDepth 20000 in
theorem tw_412 : Cond.code ⟨"RunOrder$Run", "sooner", "(II)I"⟩ prog_5_method_22_code 2 (some .int) ∈ ax_TT := ax_tt 412 rfl rfl
set_option maxRecDepth 20000 in
theorem tw_413 : Cond.methodLink "RunOrder$Run" 199 ⟨"java/lang/Math", "min", "(II)I"⟩ ∈ ax_TT := ax_tt 413 rfl rfl
set_option maxRecDepth 20000 in
theorem tw_417 : Cond.code ⟨"RunOrder", "rest", "(I)I"⟩ prog_1_method_11_code 3 (some .int) ∈ ax_TT := ax_tt 417 rfl rfl
set_option maxRecDepth 20000 in
theorem tw_418 : Cond.methodLink "RunOrder" 95 ⟨"RunOrder$Actions", "wanted", "()I"⟩ ∈ ax_TT := ax_tt 418 rfl rfl
set_option maxRecDepth 20000 in
theorem tw_419 : Cond.methodLink "RunOrder" 98 ⟨"RunOrder", "isIn", "(II)Z"⟩ ∈ ax_TT := ax_tt 419 rfl rfl
set_option maxRecDepth 20000 in
theorem tw_420 : Cond.methodLink "RunOrder" 102 ⟨"RunOrder$Actions", "measureRests", "(I)V"⟩ ∈ ax_TT := ax_tt 420 rfl rfl
set_option maxRecDepth 20000 in
theorem tw_424 : Cond.code ⟨"RunOrder", "outcome", "(II)I"⟩ prog_1_method_12_code 3 (some .int) ∈ ax_TT := ax_tt 424 rfl rfl
set_option maxRecDepth 20000 in
theorem tw_425 : Cond.methodLink "RunOrder" 109 ⟨"RunOrder$Run", "tell", "(II)I"⟩ ∈ ax_TT := ax_tt 425 rfl rfl
set_option maxRecDepth 20000 in
theorem tw_426 : Cond.instanceMethod ⟨"RunOrder$Run", "tell", "(II)I"⟩ ∈ ax_TT := ax_tt 426 rfl rfl
set_option maxRecDepth 20000 in
theorem tw_427 : Cond.selects "RunOrder$Run" ⟨"RunOrder$Run", "tell", "(II)I"⟩ ⟨"RunOrder$Run", "tell", "(II)I"⟩ ∈ ax_TT := ax_tt 427 rfl rfl
set_option maxRecDepth 20000 in
theorem tw_428 : Cond.code ⟨"RunOrder$Run", "tell", "(II)I"⟩ prog_5_method_3_code 3 (some .int) ∈ ax_TT := ax_tt 428 rfl rfl
set_option maxRecDepth 20000 in
theorem tw_432 : Cond.code ⟨"RunOrder", "first", "()I"⟩ prog_1_method_13_code 1 (some .int) ∈ ax_TT := ax_tt 432 rfl rfl
set_option maxRecDepth 20000 in
theorem tw_433 : Cond.methodLink "RunOrder" 112 ⟨"RunOrder$Run", "firstBad", "()I"⟩ ∈ ax_TT := ax_tt 433 rfl rfl
set_option maxRecDepth 20000 in
theorem tw_437 : Cond.code ⟨"RunOrder", "order", "(I)I"⟩ prog_1_method_14_code 2 (some .int) ∈ ax_TT := ax_tt 437 rfl rfl
set_option maxRecDepth 20000 in
theorem tw_438 : Cond.methodLink "RunOrder" 115 ⟨"RunOrder$Run", "begunAs", "(I)I"⟩ ∈ ax_TT := ax_tt 438 rfl rfl
set_option maxRecDepth 20000 in
theorem tw_439 : Cond.instanceMethod ⟨"RunOrder$Run", "begunAs", "(I)I"⟩ ∈ ax_TT := ax_tt 439 rfl rfl
set_option maxRecDepth 20000 in
theorem tw_440 : Cond.selects "RunOrder$Run" ⟨"RunOrder$Run", "begunAs", "(I)I"⟩ ⟨"RunOrder$Run", "begunAs", "(I)I"⟩ ∈ ax_TT := ax_tt 440 rfl rfl
set_option maxRecDepth 20000 in
theorem tw_441 : Cond.code ⟨"RunOrder$Run", "begunAs", "(I)I"⟩ prog_5_method_5_code 2 (some .int) ∈ ax_TT := ax_tt 441 rfl rfl
set_option maxRecDepth 20000 in
theorem tw_445 : Cond.code ⟨"RunOrder", "peak", "(I)I"⟩ prog_1_method_15_code 2 (some .int) ∈ ax_TT := ax_tt 445 rfl rfl
set_option maxRecDepth 20000 in
theorem tw_453 : Cond.code ⟨"RunOrderModel", "<init>", "(II)V"⟩ prog_7_method_1_code 3 none ∈ ax_TT := ax_tt 453 rfl rfl
set_option maxRecDepth 20000 in
theorem tw_454 : Cond.methodLink "RunOrderModel" 1 ⟨"java/lang/Object", "<init>", "()V"⟩ ∈ ax_TT := ax_tt 454 rfl rfl
set_option maxRecDepth 20000 in
theorem tw_455 : Cond.methodLink "RunOrderModel" 83 ⟨"RunOrderModel", "held", "(III)I"⟩ ∈ ax_TT := ax_tt 455 rfl rfl
set_option maxRecDepth 20000 in
theorem tw_456 : Cond.static ⟨"RunOrderModel", "held", "(III)I"⟩ ∈ ax_TT := ax_tt 456 rfl rfl
set_option maxRecDepth 20000 in
theorem tw_457 : Cond.code ⟨"RunOrderModel", "held", "(III)I"⟩ prog_7_method_3_code 3 (some .int) ∈ ax_TT := ax_tt 457 rfl rfl
set_option maxRecDepth 20000 in
theorem tw_458 : Cond.constant "RunOrderModel" 91 1000000 ∈ ax_TT := ax_tt 458 rfl rfl
set_option maxRecDepth 20000 in
theorem tw_459 : Cond.fieldLink "RunOrderModel" 95 "RunOrderModel" "thrown" "I" ∈ ax_TT := ax_tt 459 rfl rfl
set_option maxRecDepth 20000 in
theorem tw_460 : Cond.fieldLink "RunOrderModel" 87 "RunOrderModel" "cores" "I" ∈ ax_TT := ax_tt 460 rfl rfl
set_option maxRecDepth 20000 in
theorem tw_461 : Cond.fieldLink "RunOrderModel" 92 "RunOrderModel" "memory" "I" ∈ ax_TT := ax_tt 461 rfl rfl
set_option maxRecDepth 20000 in
theorem tw_462 : Cond.fieldLink "RunOrderModel" 105 "RunOrderModel" "slots" "I" ∈ ax_TT := ax_tt 462 rfl rfl
set_option maxRecDepth 20000 in
theorem tw_463 : Cond.fieldLink "RunOrderModel" 98 "RunOrderModel" "many" "I" ∈ ax_TT := ax_tt 463 rfl rfl
set_option maxRecDepth 20000 in
theorem tw_464 : Cond.fieldLink "RunOrderModel" 7 "RunOrderModel" "time" "[I" ∈ ax_TT := ax_tt 464 rfl rfl
set_option maxRecDepth 20000 in
theorem tw_465 : Cond.fieldLink "RunOrderModel" 13 "RunOrderModel" "core" "[I" ∈ ax_TT := ax_tt 465 rfl rfl
set_option maxRecDepth 20000 in
theorem tw_466 : Cond.fieldLink "RunOrderModel" 16 "RunOrderModel" "space" "[I" ∈ ax_TT := ax_tt 466 rfl rfl
set_option maxRecDepth 20000 in
theorem tw_467 : Cond.fieldLink "RunOrderModel" 19 "RunOrderModel" "locks" "[I" ∈ ax_TT := ax_tt 467 rfl rfl
set_option maxRecDepth 20000 in
theorem tw_468 : Cond.fieldLink "RunOrderModel" 22 "RunOrderModel" "far" "[I" ∈ ax_TT := ax_tt 468 rfl rfl
set_option maxRecDepth 20000 in
theorem tw_469 : Cond.fieldLink "RunOrderModel" 25 "RunOrderModel" "bad" "[I" ∈ ax_TT := ax_tt 469 rfl rfl
set_option maxRecDepth 20000 in
theorem tw_470 : Cond.fieldLink "RunOrderModel" 28 "RunOrderModel" "kinds" "[I" ∈ ax_TT := ax_tt 470 rfl rfl
set_option maxRecDepth 20000 in
theorem tw_471 : Cond.fieldLink "RunOrderModel" 31 "RunOrderModel" "needed" "[I" ∈ ax_TT := ax_tt 471 rfl rfl
set_option maxRecDepth 20000 in
theorem tw_472 : Cond.fieldLink "RunOrderModel" 34 "RunOrderModel" "tests" "[Z" ∈ ax_TT := ax_tt 472 rfl rfl
set_option maxRecDepth 20000 in
theorem tw_473 : Cond.fieldLink "RunOrderModel" 38 "RunOrderModel" "wished" "[Z" ∈ ax_TT := ax_tt 473 rfl rfl
set_option maxRecDepth 20000 in
theorem tw_474 : Cond.fieldLink "RunOrderModel" 41 "RunOrderModel" "wanted" "[Z" ∈ ax_TT := ax_tt 474 rfl rfl
set_option maxRecDepth 20000 in
theorem tw_475 : Cond.fieldLink "RunOrderModel" 44 "RunOrderModel" "modes" "[Z" ∈ ax_TT := ax_tt 475 rfl rfl
set_option maxRecDepth 20000 in
theorem tw_476 : Cond.fieldLink "RunOrderModel" 47 "RunOrderModel" "left" "[I" ∈ ax_TT := ax_tt 476 rfl rfl
set_option maxRecDepth 20000 in
theorem tw_477 : Cond.fieldLink "RunOrderModel" 50 "RunOrderModel" "rests" "[I" ∈ ax_TT := ax_tt 477 rfl rfl
set_option maxRecDepth 20000 in
theorem tw_478 : Cond.fieldLink "RunOrderModel" 119 "RunOrderModel" "known" "I" ∈ ax_TT := ax_tt 478 rfl rfl
set_option maxRecDepth 20000 in
theorem tw_479 : Cond.fieldLink "RunOrderModel" 53 "RunOrderModel" "state" "[I" ∈ ax_TT := ax_tt 479 rfl rfl
set_option maxRecDepth 20000 in
theorem tw_480 : Cond.fieldLink "RunOrderModel" 56 "RunOrderModel" "hereEnd" "[I" ∈ ax_TT := ax_tt 480 rfl rfl
set_option maxRecDepth 20000 in
theorem tw_481 : Cond.fieldLink "RunOrderModel" 59 "RunOrderModel" "farEnd" "[I" ∈ ax_TT := ax_tt 481 rfl rfl
set_option maxRecDepth 20000 in
theorem tw_482 : Cond.fieldLink "RunOrderModel" 62 "RunOrderModel" "began" "[I" ∈ ax_TT := ax_tt 482 rfl rfl
set_option maxRecDepth 20000 in
theorem tw_483 : Cond.fieldLink "RunOrderModel" 65 "RunOrderModel" "ended" "[I" ∈ ax_TT := ax_tt 483 rfl rfl
set_option maxRecDepth 20000 in
theorem tw_484 : Cond.fieldLink "RunOrderModel" 68 "RunOrderModel" "tries" "[I" ∈ ax_TT := ax_tt 484 rfl rfl
set_option maxRecDepth 20000 in
theorem tw_485 : Cond.fieldLink "RunOrderModel" 71 "RunOrderModel" "side" "[I" ∈ ax_TT := ax_tt 485 rfl rfl
set_option maxRecDepth 20000 in
theorem tw_486 : Cond.fieldLink "RunOrderModel" 74 "RunOrderModel" "again" "[I" ∈ ax_TT := ax_tt 486 rfl rfl
set_option maxRecDepth 20000 in
theorem tw_487 : Cond.fieldLink "RunOrderModel" 77 "RunOrderModel" "seen" "[Z" ∈ ax_TT := ax_tt 487 rfl rfl
set_option maxRecDepth 20000 in
theorem tw_488 : Cond.fieldLink "RunOrderModel" 80 "RunOrderModel" "begun" "[I" ∈ ax_TT := ax_tt 488 rfl rfl
set_option maxRecDepth 20000 in
theorem tw_489 : Cond.fieldLink "RunOrderModel" 122 "RunOrderModel" "begins" "I" ∈ ax_TT := ax_tt 489 rfl rfl
set_option maxRecDepth 20000 in
theorem tw_490 : Cond.fieldLink "RunOrderModel" 125 "RunOrderModel" "mostCores" "I" ∈ ax_TT := ax_tt 490 rfl rfl
set_option maxRecDepth 20000 in
theorem tw_491 : Cond.fieldLink "RunOrderModel" 128 "RunOrderModel" "mostMemory" "I" ∈ ax_TT := ax_tt 491 rfl rfl
set_option maxRecDepth 20000 in
theorem tw_492 : Cond.fieldLink "RunOrderModel" 131 "RunOrderModel" "last" "I" ∈ ax_TT := ax_tt 492 rfl rfl
set_option maxRecDepth 20000 in
theorem tw_493 : Cond.fieldLink "RunOrderModel" 166 "RunOrderModel" "ran" "Z" ∈ ax_TT := ax_tt 493 rfl rfl
set_option maxRecDepth 20000 in
theorem tw_494 : Cond.lays "RunOrderModel" "RunOrderModel" "thrown" "I" ∈ ax_TT := ax_tt 494 rfl rfl
set_option maxRecDepth 20000 in
theorem tw_496 : Cond.laysFinal "RunOrderModel" "RunOrderModel" "cores" "I" ∈ ax_TT := ax_tt 496 rfl rfl
set_option maxRecDepth 20000 in
theorem tw_498 : Cond.laysFinal "RunOrderModel" "RunOrderModel" "memory" "I" ∈ ax_TT := ax_tt 498 rfl rfl
set_option maxRecDepth 20000 in
theorem tw_500 : Cond.lays "RunOrderModel" "RunOrderModel" "slots" "I" ∈ ax_TT := ax_tt 500 rfl rfl
set_option maxRecDepth 20000 in
theorem tw_502 : Cond.lays "RunOrderModel" "RunOrderModel" "many" "I" ∈ ax_TT := ax_tt 502 rfl rfl
set_option maxRecDepth 20000 in
theorem tw_504 : Cond.laysFinal "RunOrderModel" "RunOrderModel" "time" "[I" ∈ ax_TT := ax_tt 504 rfl rfl
set_option maxRecDepth 20000 in
theorem tw_506 : Cond.laysFinal "RunOrderModel" "RunOrderModel" "core" "[I" ∈ ax_TT := ax_tt 506 rfl rfl
set_option maxRecDepth 20000 in
theorem tw_508 : Cond.laysFinal "RunOrderModel" "RunOrderModel" "space" "[I" ∈ ax_TT := ax_tt 508 rfl rfl
set_option maxRecDepth 20000 in
theorem tw_510 : Cond.laysFinal "RunOrderModel" "RunOrderModel" "locks" "[I" ∈ ax_TT := ax_tt 510 rfl rfl
set_option maxRecDepth 20000 in
theorem tw_512 : Cond.laysFinal "RunOrderModel" "RunOrderModel" "far" "[I" ∈ ax_TT := ax_tt 512 rfl rfl
set_option maxRecDepth 20000 in
theorem tw_514 : Cond.laysFinal "RunOrderModel" "RunOrderModel" "bad" "[I" ∈ ax_TT := ax_tt 514 rfl rfl
set_option maxRecDepth 20000 in
theorem tw_516 : Cond.laysFinal "RunOrderModel" "RunOrderModel" "kinds" "[I" ∈ ax_TT := ax_tt 516 rfl rfl
set_option maxRecDepth 20000 in
theorem tw_518 : Cond.laysFinal "RunOrderModel" "RunOrderModel" "needed" "[I" ∈ ax_TT := ax_tt 518 rfl rfl
set_option maxRecDepth 20000 in
theorem tw_520 : Cond.laysFinal "RunOrderModel" "RunOrderModel" "tests" "[Z" ∈ ax_TT := ax_tt 520 rfl rfl
set_option maxRecDepth 20000 in
theorem tw_522 : Cond.laysFinal "RunOrderModel" "RunOrderModel" "wished" "[Z" ∈ ax_TT := ax_tt 522 rfl rfl
set_option maxRecDepth 20000 in
theorem tw_524 : Cond.laysFinal "RunOrderModel" "RunOrderModel" "wanted" "[Z" ∈ ax_TT := ax_tt 524 rfl rfl
set_option maxRecDepth 20000 in
theorem tw_526 : Cond.laysFinal "RunOrderModel" "RunOrderModel" "modes" "[Z" ∈ ax_TT := ax_tt 526 rfl rfl
set_option maxRecDepth 20000 in
theorem tw_528 : Cond.laysFinal "RunOrderModel" "RunOrderModel" "left" "[I" ∈ ax_TT := ax_tt 528 rfl rfl
set_option maxRecDepth 20000 in
theorem tw_530 : Cond.laysFinal "RunOrderModel" "RunOrderModel" "rests" "[I" ∈ ax_TT := ax_tt 530 rfl rfl
set_option maxRecDepth 20000 in
theorem tw_532 : Cond.lays "RunOrderModel" "RunOrderModel" "known" "I" ∈ ax_TT := ax_tt 532 rfl rfl
set_option maxRecDepth 20000 in
theorem tw_534 : Cond.laysFinal "RunOrderModel" "RunOrderModel" "state" "[I" ∈ ax_TT := ax_tt 534 rfl rfl
set_option maxRecDepth 20000 in
theorem tw_536 : Cond.laysFinal "RunOrderModel" "RunOrderModel" "hereEnd" "[I" ∈ ax_TT := ax_tt 536 rfl rfl
set_option maxRecDepth 20000 in
theorem tw_538 : Cond.laysFinal "RunOrderModel" "RunOrderModel" "farEnd" "[I" ∈ ax_TT := ax_tt 538 rfl rfl
set_option maxRecDepth 20000 in
theorem tw_540 : Cond.laysFinal "RunOrderModel" "RunOrderModel" "began" "[I" ∈ ax_TT := ax_tt 540 rfl rfl
set_option maxRecDepth 20000 in
theorem tw_542 : Cond.laysFinal "RunOrderModel" "RunOrderModel" "ended" "[I" ∈ ax_TT := ax_tt 542 rfl rfl
set_option maxRecDepth 20000 in
theorem tw_544 : Cond.laysFinal "RunOrderModel" "RunOrderModel" "tries" "[I" ∈ ax_TT := ax_tt 544 rfl rfl
set_option maxRecDepth 20000 in
theorem tw_546 : Cond.laysFinal "RunOrderModel" "RunOrderModel" "side" "[I" ∈ ax_TT := ax_tt 546 rfl rfl
set_option maxRecDepth 20000 in
theorem tw_548 : Cond.laysFinal "RunOrderModel" "RunOrderModel" "again" "[I" ∈ ax_TT := ax_tt 548 rfl rfl
set_option maxRecDepth 20000 in
theorem tw_550 : Cond.laysFinal "RunOrderModel" "RunOrderModel" "seen" "[Z" ∈ ax_TT := ax_tt 550 rfl rfl
set_option maxRecDepth 20000 in
theorem tw_552 : Cond.laysFinal "RunOrderModel" "RunOrderModel" "begun" "[I" ∈ ax_TT := ax_tt 552 rfl rfl
set_option maxRecDepth 20000 in
theorem tw_554 : Cond.lays "RunOrderModel" "RunOrderModel" "begins" "I" ∈ ax_TT := ax_tt 554 rfl rfl
set_option maxRecDepth 20000 in
theorem tw_556 : Cond.lays "RunOrderModel" "RunOrderModel" "mostCores" "I" ∈ ax_TT := ax_tt 556 rfl rfl
set_option maxRecDepth 20000 in
theorem tw_558 : Cond.lays "RunOrderModel" "RunOrderModel" "mostMemory" "I" ∈ ax_TT := ax_tt 558 rfl rfl
set_option maxRecDepth 20000 in
theorem tw_560 : Cond.lays "RunOrderModel" "RunOrderModel" "last" "I" ∈ ax_TT := ax_tt 560 rfl rfl
set_option maxRecDepth 20000 in
theorem tw_562 : Cond.lays "RunOrderModel" "RunOrderModel" "ran" "Z" ∈ ax_TT := ax_tt 562 rfl rfl
set_option maxRecDepth 20000 in
theorem tw_568 : Cond.code ⟨"RunOrderModel", "slots", "(I)Z"⟩ prog_7_method_6_code 2 (some .boolean) ∈ ax_TT := ax_tt 568 rfl rfl
set_option maxRecDepth 20000 in
theorem tw_569 : Cond.methodLink "RunOrderModel" 101 ⟨"RunOrderModel", "in", "(III)Z"⟩ ∈ ax_TT := ax_tt 569 rfl rfl
set_option maxRecDepth 20000 in
theorem tw_570 : Cond.static ⟨"RunOrderModel", "in", "(III)Z"⟩ ∈ ax_TT := ax_tt 570 rfl rfl
set_option maxRecDepth 20000 in
theorem tw_571 : Cond.code ⟨"RunOrderModel", "in", "(III)Z"⟩ prog_7_method_4_code 3 (some .boolean) ∈ ax_TT := ax_tt 571 rfl rfl
set_option maxRecDepth 20000 in
theorem tw_575 : Cond.code ⟨"RunOrderModel", "action", "(III)I"⟩ prog_7_method_7_code 4 (some .int) ∈ ax_TT := ax_tt 575 rfl rfl
set_option maxRecDepth 20000 in
theorem tw_579 : Cond.code ⟨"RunOrderModel", "about", "(IZII)Z"⟩ prog_7_method_8_code 5 (some .boolean) ∈ ax_TT := ax_tt 579 rfl rfl
set_option maxRecDepth 20000 in
theorem tw_580 : Cond.methodLink "RunOrderModel" 108 ⟨"RunOrderModel", "isAction", "(I)Z"⟩ ∈ ax_TT := ax_tt 580 rfl rfl
set_option maxRecDepth 20000 in
theorem tw_582 : Cond.instanceMethod ⟨"RunOrderModel", "isAction", "(I)Z"⟩ ∈ ax_TT := ax_tt 582 rfl rfl
set_option maxRecDepth 20000 in
theorem tw_583 : Cond.code ⟨"RunOrderModel", "isAction", "(I)Z"⟩ prog_7_method_5_code 2 (some .boolean) ∈ ax_TT := ax_tt 583 rfl rfl
set_option maxRecDepth 20000 in
theorem tw_587 : Cond.code ⟨"RunOrderModel", "fails", "(III)Z"⟩ prog_7_method_9_code 4 (some .boolean) ∈ ax_TT := ax_tt 587 rfl rfl
set_option maxRecDepth 20000 in
theorem tw_591 : Cond.code ⟨"RunOrderModel", "needs", "(II)I"⟩ prog_7_method_11_code 3 (some .int) ∈ ax_TT := ax_tt 591 rfl rfl
set_option maxRecDepth 20000 in
theorem tw_592 : Cond.methodLink "RunOrderModel" 112 ⟨"RunOrderModel", "all", "(I)I"⟩ ∈ ax_TT := ax_tt 592 rfl rfl
set_option maxRecDepth 20000 in
theorem tw_594 : Cond.instanceMethod ⟨"RunOrderModel", "all", "(I)I"⟩ ∈ ax_TT := ax_tt 594 rfl rfl
set_option maxRecDepth 20000 in
theorem tw_595 : Cond.code ⟨"RunOrderModel", "all", "(I)I"⟩ prog_7_method_10_code 6 (some .int) ∈ ax_TT := ax_tt 595 rfl rfl
set_option maxRecDepth 20000 in
theorem tw_599 : Cond.code ⟨"RunOrderModel", "wish", "(IZ)Z"⟩ prog_7_method_12_code 3 (some .boolean) ∈ ax_TT := ax_tt 599 rfl rfl
set_option maxRecDepth 20000 in
theorem tw_603 : Cond.code ⟨"RunOrderModel", "mode", "(IZ)Z"⟩ prog_7_method_13_code 3 (some .boolean) ∈ ax_TT := ax_tt 603 rfl rfl
set_option maxRecDepth 20000 in
theorem tw_607 : Cond.code ⟨"RunOrderModel", "retries", "(II)Z"⟩ prog_7_method_14_code 3 (some .boolean) ∈ ax_TT := ax_tt 607 rfl rfl
set_option maxRecDepth 20000 in
theorem tw_611 : Cond.code ⟨"RunOrderModel", "rest", "(I)I"⟩ prog_7_method_16_code 2 (some .int) ∈ ax_TT := ax_tt 611 rfl rfl
set_option maxRecDepth 20000 in
theorem tw_612 : Cond.methodLink "RunOrderModel" 116 ⟨"RunOrderModel", "want", "()V"⟩ ∈ ax_TT := ax_tt 612 rfl rfl
set_option maxRecDepth 20000 in
theorem tw_614 : Cond.instanceMethod ⟨"RunOrderModel", "want", "()V"⟩ ∈ ax_TT := ax_tt 614 rfl rfl
set_option maxRecDepth 20000 in
theorem tw_615 : Cond.code ⟨"RunOrderModel", "want", "()V"⟩ prog_7_method_15_code 4 none ∈ ax_TT := ax_tt 615 rfl rfl
set_option maxRecDepth 20000 in
theorem tw_619 : Cond.code ⟨"RunOrderModel", "run", "()I"⟩ prog_7_method_31_code 2 (some .int) ∈ ax_TT := ax_tt 619 rfl rfl
set_option maxRecDepth 20000 in
theorem tw_620 : Cond.methodLink "RunOrderModel" 163 ⟨"RunOrderModel", "fresh", "()V"⟩ ∈ ax_TT := ax_tt 620 rfl rfl
set_option maxRecDepth 20000 in
theorem tw_622 : Cond.instanceMethod ⟨"RunOrderModel", "fresh", "()V"⟩ ∈ ax_TT := ax_tt 622 rfl rfl
set_option maxRecDepth 20000 in
theorem tw_623 : Cond.code ⟨"RunOrderModel", "fresh", "()V"⟩ prog_7_method_17_code 3 none ∈ ax_TT := ax_tt 623 rfl rfl
set_option maxRecDepth 20000 in
theorem tw_624 : Cond.methodLink "RunOrderModel" 170 ⟨"RunOrderModel", "endAll", "(I)V"⟩ ∈ ax_TT := ax_tt 624 rfl rfl
set_option maxRecDepth 20000 in
theorem tw_626 : Cond.instanceMethod ⟨"RunOrderModel", "endAll", "(I)V"⟩ ∈ ax_TT := ax_tt 626 rfl rfl
set_option maxRecDepth 20000 in
theorem tw_627 : Cond.code ⟨"RunOrderModel", "endAll", "(I)V"⟩ prog_7_method_20_code 3 none ∈ ax_TT := ax_tt 627 rfl rfl
set_option maxRecDepth 20000 in
theorem tw_628 : Cond.methodLink "RunOrderModel" 138 ⟨"RunOrderModel", "end", "(III)V"⟩ ∈ ax_TT := ax_tt 628 rfl rfl
set_option maxRecDepth 20000 in
theorem tw_630 : Cond.instanceMethod ⟨"RunOrderModel", "end", "(III)V"⟩ ∈ ax_TT := ax_tt 630 rfl rfl
set_option maxRecDepth 20000 in
theorem tw_631 : Cond.code ⟨"RunOrderModel", "end", "(III)V"⟩ prog_7_method_19_code 5 none ∈ ax_TT := ax_tt 631 rfl rfl
set_option maxRecDepth 20000 in
theorem tw_632 : Cond.methodLink "RunOrderModel" 134 ⟨"RunOrderModel", "isSpoilt", "()Z"⟩ ∈ ax_TT := ax_tt 632 rfl rfl
set_option maxRecDepth 20000 in
theorem tw_634 : Cond.instanceMethod ⟨"RunOrderModel", "isSpoilt", "()Z"⟩ ∈ ax_TT := ax_tt 634 rfl rfl
set_option maxRecDepth 20000 in
theorem tw_635 : Cond.code ⟨"RunOrderModel", "isSpoilt", "()Z"⟩ prog_7_method_18_code 3 (some .boolean) ∈ ax_TT := ax_tt 635 rfl rfl
set_option maxRecDepth 20000 in
theorem tw_636 : Cond.methodLink "RunOrderModel" 174 ⟨"RunOrderModel", "skipAll", "()V"⟩ ∈ ax_TT := ax_tt 636 rfl rfl
set_option maxRecDepth 20000 in
theorem tw_638 : Cond.instanceMethod ⟨"RunOrderModel", "skipAll", "()V"⟩ ∈ ax_TT := ax_tt 638 rfl rfl
set_option maxRecDepth 20000 in
theorem tw_639 : Cond.code ⟨"RunOrderModel", "skipAll", "()V"⟩ prog_7_method_22_code 3 none ∈ ax_TT := ax_tt 639 rfl rfl
set_option maxRecDepth 20000 in
theorem tw_640 : Cond.methodLink "RunOrderModel" 142 ⟨"RunOrderModel", "lacks", "(I)Z"⟩ ∈ ax_TT := ax_tt 640 rfl rfl
set_option maxRecDepth 20000 in
theorem tw_642 : Cond.instanceMethod ⟨"RunOrderModel", "lacks", "(I)Z"⟩ ∈ ax_TT := ax_tt 642 rfl rfl
set_option maxRecDepth 20000 in
theorem tw_643 : Cond.code ⟨"RunOrderModel", "lacks", "(I)Z"⟩ prog_7_method_21_code 4 (some .boolean) ∈ ax_TT := ax_tt 643 rfl rfl
set_option maxRecDepth 20000 in
theorem tw_644 : Cond.methodLink "RunOrderModel" 177 ⟨"RunOrderModel", "stopAll", "()V"⟩ ∈ ax_TT := ax_tt 644 rfl rfl
set_option maxRecDepth 20000 in
theorem tw_646 : Cond.instanceMethod ⟨"RunOrderModel", "stopAll", "()V"⟩ ∈ ax_TT := ax_tt 646 rfl rfl
set_option maxRecDepth 20000 in
theorem tw_647 : Cond.code ⟨"RunOrderModel", "stopAll", "()V"⟩ prog_7_method_23_code 2 none ∈ ax_TT := ax_tt 647 rfl rfl
set_option maxRecDepth 20000 in
theorem tw_648 : Cond.methodLink "RunOrderModel" 180 ⟨"RunOrderModel", "beginAll", "(I)V"⟩ ∈ ax_TT := ax_tt 648 rfl rfl
set_option maxRecDepth 20000 in
theorem tw_650 : Cond.instanceMethod ⟨"RunOrderModel", "beginAll", "(I)V"⟩ ∈ ax_TT := ax_tt 650 rfl rfl
set_option maxRecDepth 20000 in
theorem tw_651 : Cond.code ⟨"RunOrderModel", "beginAll", "(I)V"⟩ prog_7_method_29_code 6 none ∈ ax_TT := ax_tt 651 rfl rfl
set_option maxRecDepth 20000 in
theorem tw_652 : Cond.methodLink "RunOrderModel" 148 ⟨"RunOrderModel", "isReady", "(IZ)Z"⟩ ∈ ax_TT := ax_tt 652 rfl rfl
set_option maxRecDepth 20000 in
theorem tw_654 : Cond.instanceMethod ⟨"RunOrderModel", "isReady", "(IZ)Z"⟩ ∈ ax_TT := ax_tt 654 rfl rfl
set_option maxRecDepth 20000 in
theorem tw_655 : Cond.code ⟨"RunOrderModel", "isReady", "(IZ)Z"⟩ prog_7_method_24_code 5 (some .boolean) ∈ ax_TT := ax_tt 655 rfl rfl
set_option maxRecDepth 20000 in
theorem tw_656 : Cond.methodLink "RunOrderModel" 152 ⟨"RunOrderModel", "next", "()I"⟩ ∈ ax_TT := ax_tt 656 rfl rfl
set_option maxRecDepth 20000 in
theorem tw_658 : Cond.instanceMethod ⟨"RunOrderModel", "next", "()I"⟩ ∈ ax_TT := ax_tt 658 rfl rfl
set_option maxRecDepth 20000 in
theorem tw_659 : Cond.code ⟨"RunOrderModel", "next", "()I"⟩ prog_7_method_28_code 3 (some .int) ∈ ax_TT := ax_tt 659 rfl rfl
set_option maxRecDepth 20000 in
theorem tw_660 : Cond.methodLink "RunOrderModel" 156 ⟨"RunOrderModel", "fits", "(I)Z"⟩ ∈ ax_TT := ax_tt 660 rfl rfl
set_option maxRecDepth 20000 in
theorem tw_662 : Cond.instanceMethod ⟨"RunOrderModel", "fits", "(I)Z"⟩ ∈ ax_TT := ax_tt 662 rfl rfl
set_option maxRecDepth 20000 in
theorem tw_663 : Cond.code ⟨"RunOrderModel", "fits", "(I)Z"⟩ prog_7_method_26_code 2 (some .boolean) ∈ ax_TT := ax_tt 663 rfl rfl
set_option maxRecDepth 20000 in
theorem tw_664 : Cond.methodLink "RunOrderModel" 145 ⟨"RunOrderModel", "taken", "(I)I"⟩ ∈ ax_TT := ax_tt 664 rfl rfl
set_option maxRecDepth 20000 in
theorem tw_666 : Cond.instanceMethod ⟨"RunOrderModel", "taken", "(I)I"⟩ ∈ ax_TT := ax_tt 666 rfl rfl
set_option maxRecDepth 20000 in
theorem tw_667 : Cond.code ⟨"RunOrderModel", "taken", "(I)I"⟩ prog_7_method_25_code 4 (some .int) ∈ ax_TT := ax_tt 667 rfl rfl
set_option maxRecDepth 20000 in
theorem tw_668 : Cond.methodLink "RunOrderModel" 159 ⟨"RunOrderModel", "begin", "(II)V"⟩ ∈ ax_TT := ax_tt 668 rfl rfl
set_option maxRecDepth 20000 in
theorem tw_670 : Cond.instanceMethod ⟨"RunOrderModel", "begin", "(II)V"⟩ ∈ ax_TT := ax_tt 670 rfl rfl
set_option maxRecDepth 20000 in
theorem tw_671 : Cond.code ⟨"RunOrderModel", "begin", "(II)V"⟩ prog_7_method_27_code 4 none ∈ ax_TT := ax_tt 671 rfl rfl
set_option maxRecDepth 20000 in
theorem tw_672 : Cond.methodLink "RunOrderModel" 183 ⟨"RunOrderModel", "nextEnd", "()I"⟩ ∈ ax_TT := ax_tt 672 rfl rfl
set_option maxRecDepth 20000 in
theorem tw_674 : Cond.instanceMethod ⟨"RunOrderModel", "nextEnd", "()I"⟩ ∈ ax_TT := ax_tt 674 rfl rfl
set_option maxRecDepth 20000 in
theorem tw_675 : Cond.code ⟨"RunOrderModel", "nextEnd", "()I"⟩ prog_7_method_30_code 4 (some .int) ∈ ax_TT := ax_tt 675 rfl rfl
set_option maxRecDepth 20000 in
theorem tw_679 : Cond.code ⟨"RunOrderModel", "outcome", "(II)I"⟩ prog_7_method_32_code 3 (some .int) ∈ ax_TT := ax_tt 679 rfl rfl
set_option maxRecDepth 20000 in
theorem tw_683 : Cond.code ⟨"RunOrderModel", "first", "()I"⟩ prog_7_method_33_code 2 (some .int) ∈ ax_TT := ax_tt 683 rfl rfl
set_option maxRecDepth 20000 in
theorem tw_687 : Cond.code ⟨"RunOrderModel", "order", "(I)I"⟩ prog_7_method_34_code 2 (some .int) ∈ ax_TT := ax_tt 687 rfl rfl
set_option maxRecDepth 20000 in
theorem tw_691 : Cond.code ⟨"RunOrderModel", "peak", "(I)I"⟩ prog_7_method_35_code 2 (some .int) ∈ ax_TT := ax_tt 691 rfl rfl
theorem fi_O : ∀ w ∈ u_ws rn_O fd_O 4, w ∈ ax_TT := by
  intro w hw
  obtain ⟨k, hk, rfl⟩ := List.mem_map.mp hw
  have hk := List.mem_range.mp hk
  match k, hk with
  | 0, _ => exact tw_231
  | 1, _ => exact tw_233
  | 2, _ => exact tw_235
  | 3, _ => exact tw_237
  | n + 4, h => exact absurd h (by omega)
theorem fx_O : ∀ ty : Nat → FieldType, (∀ k, k < 4 → parseFieldDescriptor (fd_O k).2.2.1 = some (ty k)) → ∀ j, j < 4 → defaultValue (ty j) = vp_V fv_O j := by
  intro ty h j hj
  have e : ty j = ft_O j := Option.some.inj ((h j hj).symm.trans (ft_O_ok j hj))
  rw [e]
  match j, hj with
  | 0, _ => rfl
  | 1, _ => rfl
  | 2, _ => rfl
  | 3, _ => rfl
  | n + 4, h => exact absurd h (by omega)
theorem fi_H : ∀ w ∈ u_ws rn_H fd_H 9, w ∈ ax_TT := by
  intro w hw
  obtain ⟨k, hk, rfl⟩ := List.mem_map.mp hw
  have hk := List.mem_range.mp hk
  match k, hk with
  | 0, _ => exact tw_79
  | 1, _ => exact tw_81
  | 2, _ => exact tw_83
  | 3, _ => exact tw_85
  | 4, _ => exact tw_87
  | 5, _ => exact tw_89
  | 6, _ => exact tw_91
  | 7, _ => exact tw_93
  | 8, _ => exact tw_95
  | n + 9, h => exact absurd h (by omega)
theorem fx_H : ∀ ty : Nat → FieldType, (∀ k, k < 9 → parseFieldDescriptor (fd_H k).2.2.1 = some (ty k)) → ∀ j, j < 9 → defaultValue (ty j) = vp_V fv_H j := by
  intro ty h j hj
  have e : ty j = ft_H j := Option.some.inj ((h j hj).symm.trans (ft_H_ok j hj))
  rw [e]
  match j, hj with
  | 0, _ => rfl
  | 1, _ => rfl
  | 2, _ => rfl
  | 3, _ => rfl
  | 4, _ => rfl
  | 5, _ => rfl
  | 6, _ => rfl
  | 7, _ => rfl
  | 8, _ => rfl
  | n + 9, h => exact absurd h (by omega)
theorem fi_A : ∀ w ∈ u_ws rn_A fd_A 13, w ∈ ax_TT := by
  intro w hw
  obtain ⟨k, hk, rfl⟩ := List.mem_map.mp hw
  have hk := List.mem_range.mp hk
  match k, hk with
  | 0, _ => exact tw_135
  | 1, _ => exact tw_137
  | 2, _ => exact tw_139
  | 3, _ => exact tw_141
  | 4, _ => exact tw_143
  | 5, _ => exact tw_145
  | 6, _ => exact tw_147
  | 7, _ => exact tw_149
  | 8, _ => exact tw_151
  | 9, _ => exact tw_153
  | 10, _ => exact tw_155
  | 11, _ => exact tw_157
  | 12, _ => exact tw_159
  | n + 13, h => exact absurd h (by omega)
theorem fx_A : ∀ ty : Nat → FieldType, (∀ k, k < 13 → parseFieldDescriptor (fd_A k).2.2.1 = some (ty k)) → ∀ j, j < 13 → defaultValue (ty j) = vp_V fv_A j := by
  intro ty h j hj
  have e : ty j = ft_A j := Option.some.inj ((h j hj).symm.trans (ft_A_ok j hj))
  rw [e]
  match j, hj with
  | 0, _ => rfl
  | 1, _ => rfl
  | 2, _ => rfl
  | 3, _ => rfl
  | 4, _ => rfl
  | 5, _ => rfl
  | 6, _ => rfl
  | 7, _ => rfl
  | 8, _ => rfl
  | 9, _ => rfl
  | 10, _ => rfl
  | 11, _ => rfl
  | 12, _ => rfl
  | n + 13, h => exact absurd h (by omega)
theorem fi_U : ∀ w ∈ u_ws rn_U fd_U 2, w ∈ ax_TT := by
  intro w hw
  obtain ⟨k, hk, rfl⟩ := List.mem_map.mp hw
  have hk := List.mem_range.mp hk
  match k, hk with
  | 0, _ => exact tw_176
  | 1, _ => exact tw_178
  | n + 2, h => exact absurd h (by omega)
theorem fx_U : ∀ ty : Nat → FieldType, (∀ k, k < 2 → parseFieldDescriptor (fd_U k).2.2.1 = some (ty k)) → ∀ j, j < 2 → defaultValue (ty j) = vp_V fv_U j := by
  intro ty h j hj
  have e : ty j = ft_U j := Option.some.inj ((h j hj).symm.trans (ft_U_ok j hj))
  rw [e]
  match j, hj with
  | 0, _ => rfl
  | 1, _ => rfl
  | n + 2, h => exact absurd h (by omega)
theorem fi_N : ∀ w ∈ u_ws rn_N fd_N 13, w ∈ ax_TT := by
  intro w hw
  obtain ⟨k, hk, rfl⟩ := List.mem_map.mp hw
  have hk := List.mem_range.mp hk
  match k, hk with
  | 0, _ => exact tw_200
  | 1, _ => exact tw_202
  | 2, _ => exact tw_204
  | 3, _ => exact tw_206
  | 4, _ => exact tw_208
  | 5, _ => exact tw_210
  | 6, _ => exact tw_212
  | 7, _ => exact tw_214
  | 8, _ => exact tw_216
  | 9, _ => exact tw_218
  | 10, _ => exact tw_220
  | 11, _ => exact tw_222
  | 12, _ => exact tw_224
  | n + 13, h => exact absurd h (by omega)
theorem fx_N : ∀ ty : Nat → FieldType, (∀ k, k < 13 → parseFieldDescriptor (fd_N k).2.2.1 = some (ty k)) → ∀ j, j < 13 → defaultValue (ty j) = vp_V fv_N j := by
  intro ty h j hj
  have e : ty j = ft_N j := Option.some.inj ((h j hj).symm.trans (ft_N_ok j hj))
  rw [e]
  match j, hj with
  | 0, _ => rfl
  | 1, _ => rfl
  | 2, _ => rfl
  | 3, _ => rfl
  | 4, _ => rfl
  | 5, _ => rfl
  | 6, _ => rfl
  | 7, _ => rfl
  | 8, _ => rfl
  | 9, _ => rfl
  | 10, _ => rfl
  | 11, _ => rfl
  | 12, _ => rfl
  | n + 13, h => exact absurd h (by omega)
theorem fi_M : ∀ w ∈ u_ws rn_M fd_M 35, w ∈ ax_TT := by
  intro w hw
  obtain ⟨k, hk, rfl⟩ := List.mem_map.mp hw
  have hk := List.mem_range.mp hk
  match k, hk with
  | 0, _ => exact tw_494
  | 1, _ => exact tw_496
  | 2, _ => exact tw_498
  | 3, _ => exact tw_500
  | 4, _ => exact tw_502
  | 5, _ => exact tw_504
  | 6, _ => exact tw_506
  | 7, _ => exact tw_508
  | 8, _ => exact tw_510
  | 9, _ => exact tw_512
  | 10, _ => exact tw_514
  | 11, _ => exact tw_516
  | 12, _ => exact tw_518
  | 13, _ => exact tw_520
  | 14, _ => exact tw_522
  | 15, _ => exact tw_524
  | 16, _ => exact tw_526
  | 17, _ => exact tw_528
  | 18, _ => exact tw_530
  | 19, _ => exact tw_532
  | 20, _ => exact tw_534
  | 21, _ => exact tw_536
  | 22, _ => exact tw_538
  | 23, _ => exact tw_540
  | 24, _ => exact tw_542
  | 25, _ => exact tw_544
  | 26, _ => exact tw_546
  | 27, _ => exact tw_548
  | 28, _ => exact tw_550
  | 29, _ => exact tw_552
  | 30, _ => exact tw_554
  | 31, _ => exact tw_556
  | 32, _ => exact tw_558
  | 33, _ => exact tw_560
  | 34, _ => exact tw_562
  | n + 35, h => exact absurd h (by omega)
theorem fx_M : ∀ ty : Nat → FieldType, (∀ k, k < 35 → parseFieldDescriptor (fd_M k).2.2.1 = some (ty k)) → ∀ j, j < 35 → defaultValue (ty j) = vp_V fv_M j := by
  intro ty h j hj
  have e : ty j = ft_M j := Option.some.inj ((h j hj).symm.trans (ft_M_ok j hj))
  rw [e]
  match j, hj with
  | 0, _ => rfl
  | 1, _ => rfl
  | 2, _ => rfl
  | 3, _ => rfl
  | 4, _ => rfl
  | 5, _ => rfl
  | 6, _ => rfl
  | 7, _ => rfl
  | 8, _ => rfl
  | 9, _ => rfl
  | 10, _ => rfl
  | 11, _ => rfl
  | 12, _ => rfl
  | 13, _ => rfl
  | 14, _ => rfl
  | 15, _ => rfl
  | 16, _ => rfl
  | 17, _ => rfl
  | 18, _ => rfl
  | 19, _ => rfl
  | 20, _ => rfl
  | 21, _ => rfl
  | 22, _ => rfl
  | 23, _ => rfl
  | 24, _ => rfl
  | 25, _ => rfl
  | 26, _ => rfl
  | 27, _ => rfl
  | 28, _ => rfl
  | 29, _ => rfl
  | 30, _ => rfl
  | 31, _ => rfl
  | 32, _ => rfl
  | 33, _ => rfl
  | 34, _ => rfl
  | n + 35, h => exact absurd h (by omega)
