theorem dp_0 : Cond.selects "DriftNet$Entry" ⟨"DriftNet$Entry", "show", "()V"⟩ ⟨"DriftNet$Entry", "show", "()V"⟩ ∈ jt_tb := jt_in 0 (by decide +kernel) rfl
theorem dp_1 : Cond.selects "DriftNet$Boat" ⟨"DriftNet$Boat", "loseWaysOver", "(I)V"⟩ ⟨"DriftNet$Boat", "loseWaysOver", "(I)V"⟩ ∈ jt_tb := jt_in 1 (by decide +kernel) rfl
theorem dp_2 : Cond.selects "DriftNet" ⟨"DriftNet", "turn", "(IZ)Z"⟩ ⟨"DriftNet", "turn", "(IZ)Z"⟩ ∈ jt_tb := jt_in 2 (by decide +kernel) rfl
theorem dp_3 : Cond.selects "java/lang/Throwable" ⟨"java/lang/Throwable", "fillInStackTrace", "(I)Ljava/lang/Throwable;"⟩ ⟨"java/lang/Throwable", "fillInStackTrace", "(I)Ljava/lang/Throwable;"⟩ ∈ jt_tb := jt_in 3 (by decide +kernel) rfl
theorem dp_4 : Cond.selects "DriftNet" ⟨"DriftNet", "needOn", "(I)V"⟩ ⟨"DriftNet", "needOn", "(I)V"⟩ ∈ jt_tb := jt_in 4 (by decide +kernel) rfl
theorem dp_5 : Cond.selects "DriftNet" ⟨"DriftNet", "keptAt", "(I)LDriftNet$Cast;"⟩ ⟨"DriftNet", "keptAt", "(I)LDriftNet$Cast;"⟩ ∈ jt_tb := jt_in 5 (by decide +kernel) rfl
theorem dp_6 : Cond.selects "DriftNet" ⟨"DriftNet", "needCast", "(I)V"⟩ ⟨"DriftNet", "needCast", "(I)V"⟩ ∈ jt_tb := jt_in 6 (by decide +kernel) rfl
theorem dp_7 : Cond.selects "DriftNet" ⟨"DriftNet", "needPart", "(II)V"⟩ ⟨"DriftNet", "needPart", "(II)V"⟩ ∈ jt_tb := jt_in 7 (by decide +kernel) rfl
theorem dp_8 : Cond.selects "DriftNet$Entry" ⟨"DriftNet$Entry", "isShownAtOnce", "()Z"⟩ ⟨"DriftNet$Entry", "isShownAtOnce", "()Z"⟩ ∈ jt_tb := jt_in 8 (by decide +kernel) rfl
theorem dp_9 : Cond.selects "DriftNet" ⟨"DriftNet", "packetsAt", "(I)I"⟩ ⟨"DriftNet", "packetsAt", "(I)I"⟩ ∈ jt_tb := jt_in 9 (by decide +kernel) rfl
theorem dp_10 : Cond.selects "DriftNet" ⟨"DriftNet", "freePacket", "()LDriftNet$Packet;"⟩ ⟨"DriftNet", "freePacket", "()LDriftNet$Packet;"⟩ ∈ jt_tb := jt_in 10 (by decide +kernel) rfl
theorem dp_11 : Cond.selects "DriftNet" ⟨"DriftNet", "packetNumbered", "(I)LDriftNet$Packet;"⟩ ⟨"DriftNet", "packetNumbered", "(I)LDriftNet$Packet;"⟩ ∈ jt_tb := jt_in 11 (by decide +kernel) rfl
theorem dp_12 : Cond.selects "DriftNet" ⟨"DriftNet", "mayGoOn", "(LDriftNet$Packet;)Z"⟩ ⟨"DriftNet", "mayGoOn", "(LDriftNet$Packet;)Z"⟩ ∈ jt_tb := jt_in 12 (by decide +kernel) rfl
theorem dp_13 : Cond.selects "DriftNet" ⟨"DriftNet", "hasRoom", "(II)Z"⟩ ⟨"DriftNet", "hasRoom", "(II)Z"⟩ ∈ jt_tb := jt_in 13 (by decide +kernel) rfl
theorem dp_14 : Cond.selects "DriftNet" ⟨"DriftNet", "circleFrom", "(II)I"⟩ ⟨"DriftNet", "circleFrom", "(II)I"⟩ ∈ jt_tb := jt_in 14 (by decide +kernel) rfl
theorem dp_15 : Cond.selects "DriftNet" ⟨"DriftNet", "oneLinkFurther", "(I)I"⟩ ⟨"DriftNet", "oneLinkFurther", "(I)I"⟩ ∈ jt_tb := jt_in 15 (by decide +kernel) rfl
theorem dp_16 : Cond.selects "DriftNetModel" ⟨"DriftNetModel", "show", "(I)V"⟩ ⟨"DriftNetModel", "show", "(I)V"⟩ ∈ jt_tb := jt_in 16 (by decide +kernel) rfl
theorem dp_17 : Cond.selects "DriftNetModel" ⟨"DriftNetModel", "isCast", "(I)Z"⟩ ⟨"DriftNetModel", "isCast", "(I)Z"⟩ ∈ jt_tb := jt_in 17 (by decide +kernel) rfl
theorem dp_18 : Cond.selects "DriftNetModel" ⟨"DriftNetModel", "partsOf", "(I)I"⟩ ⟨"DriftNetModel", "partsOf", "(I)I"⟩ ∈ jt_tb := jt_in 18 (by decide +kernel) rfl
theorem dp_19 : Cond.selects "DriftNetModel" ⟨"DriftNetModel", "isPart", "(II)Z"⟩ ⟨"DriftNetModel", "isPart", "(II)Z"⟩ ∈ jt_tb := jt_in 19 (by decide +kernel) rfl
theorem dp_20 : Cond.selects "DriftNetModel" ⟨"DriftNetModel", "take", "(IIIII)Z"⟩ ⟨"DriftNetModel", "take", "(IIIII)Z"⟩ ∈ jt_tb := jt_in 20 (by decide +kernel) rfl
theorem dp_21 : Cond.selects "DriftNetModel" ⟨"DriftNetModel", "lose", "(II)V"⟩ ⟨"DriftNetModel", "lose", "(II)V"⟩ ∈ jt_tb := jt_in 21 (by decide +kernel) rfl
theorem dp_22 : Cond.selects "DriftNetModel" ⟨"DriftNetModel", "packets", "(I)I"⟩ ⟨"DriftNetModel", "packets", "(I)I"⟩ ∈ jt_tb := jt_in 22 (by decide +kernel) rfl
theorem dp_23 : Cond.selects "DriftNetModel" ⟨"DriftNetModel", "goes", "(III)Z"⟩ ⟨"DriftNetModel", "goes", "(III)Z"⟩ ∈ jt_tb := jt_in 23 (by decide +kernel) rfl
theorem dk_0 : (Jvm.Cond.initialized "DriftNetLaw") ∈ jt_tb := jt_in 24 (by decide +kernel) rfl
theorem dk_1 : (Jvm.Cond.initialized "DriftNet") ∈ jt_tb := jt_in 25 (by decide +kernel) rfl
theorem dk_2 : (Jvm.Cond.initialized "DriftNet$Boat") ∈ jt_tb := jt_in 26 (by decide +kernel) rfl
theorem dk_3 : (Jvm.Cond.initialized "DriftNet$Entry") ∈ jt_tb := jt_in 27 (by decide +kernel) rfl
theorem dk_4 : (Jvm.Cond.initialized "DriftNet$Cast") ∈ jt_tb := jt_in 28 (by decide +kernel) rfl
theorem dk_5 : (Jvm.Cond.initialized "DriftNet$Packet") ∈ jt_tb := jt_in 29 (by decide +kernel) rfl
theorem dk_6 : (Jvm.Cond.initialized "DriftNetModel") ∈ jt_tb := jt_in 30 (by decide +kernel) rfl
theorem dk_10 : (Jvm.Cond.initialized "java/lang/IllegalArgumentException") ∈ jt_tb := jt_in 34 (by decide +kernel) rfl
theorem dk_11 : (Jvm.Cond.initialized "java/lang/IllegalStateException") ∈ jt_tb := jt_in 35 (by decide +kernel) rfl
theorem dk_12 : (Jvm.Cond.initialized "java/lang/Math") ∈ jt_tb := jt_in 36 (by decide +kernel) rfl
theorem dk_13 : (Jvm.Cond.initialized "java/lang/IndexOutOfBoundsException") ∈ jt_tb := jt_in 37 (by decide +kernel) rfl
theorem dk_14 : (Jvm.Cond.classLink "DriftNetLaw" (8 : Nat) "DriftNet") ∈ jt_tb := jt_in 38 (by decide +kernel) rfl
theorem dk_15 : (Jvm.Cond.instantiable "DriftNet" (6 : Nat)) ∈ jt_tb := jt_in 39 (by decide +kernel) rfl
theorem dk_16 : (Jvm.Cond.methodLink "DriftNetLaw" (69 : Nat) ({ cls := "DriftNet", name := "<init>", desc := "()V" } : Jvm.MethodName)) ∈ jt_tb := jt_in 40 (by decide +kernel) rfl
theorem dk_17 : (Jvm.Cond.instanceMethod ({ cls := "DriftNet", name := "<init>", desc := "()V" } : Jvm.MethodName)) ∈ jt_tb := jt_in 41 (by decide +kernel) rfl
theorem dk_18 : (Jvm.Cond.code ({ cls := "DriftNet", name := "<init>", desc := "()V" } : Jvm.MethodName) prog_1_method_1_code (2 : Nat) (Option.none : Option Jvm.ClassFile.FieldType)) ∈ jt_tb := jt_in 42 (by decide +kernel) rfl
theorem dk_19 : (Jvm.Cond.methodLink "DriftNet" (1 : Nat) ({ cls := "java/lang/Object", name := "<init>", desc := "()V" } : Jvm.MethodName)) ∈ jt_tb := jt_in 43 (by decide +kernel) rfl
theorem dk_20 : (Jvm.Cond.instanceMethod ({ cls := "java/lang/Object", name := "<init>", desc := "()V" } : Jvm.MethodName)) ∈ jt_tb := jt_in 44 (by decide +kernel) rfl
theorem dk_21 : (Jvm.Cond.code ({ cls := "java/lang/Object", name := "<init>", desc := "()V" } : Jvm.MethodName) object_method_1_code (1 : Nat) (Option.none : Option Jvm.ClassFile.FieldType)) ∈ jt_tb := jt_in 45 (by decide +kernel) rfl
theorem dk_22 : (Jvm.Cond.classLink "DriftNet" (9 : Nat) "DriftNet$Boat") ∈ jt_tb := jt_in 46 (by decide +kernel) rfl
theorem dk_23 : (Jvm.Cond.arrayOver (Jvm.ClassFile.FieldType.object "DriftNet$Boat")) ∈ jt_tb := jt_in 47 (by decide +kernel) rfl
theorem dk_24 : (Jvm.Cond.classLink "DriftNet" (15 : Nat) "DriftNet$Cast") ∈ jt_tb := jt_in 48 (by decide +kernel) rfl
theorem dk_25 : (Jvm.Cond.arrayOver (Jvm.ClassFile.FieldType.object "DriftNet$Cast")) ∈ jt_tb := jt_in 49 (by decide +kernel) rfl
theorem dk_26 : (Jvm.Cond.classLink "DriftNet" (21 : Nat) "DriftNet$Packet") ∈ jt_tb := jt_in 50 (by decide +kernel) rfl
theorem dk_27 : (Jvm.Cond.arrayOver (Jvm.ClassFile.FieldType.object "DriftNet$Packet")) ∈ jt_tb := jt_in 51 (by decide +kernel) rfl
theorem dk_28 : (Jvm.Cond.instantiable "DriftNet$Boat" (7 : Nat)) ∈ jt_tb := jt_in 52 (by decide +kernel) rfl
theorem dk_29 : (Jvm.Cond.methodLink "DriftNet" (37 : Nat) ({ cls := "DriftNet$Boat", name := "<init>", desc := "(I)V" } : Jvm.MethodName)) ∈ jt_tb := jt_in 53 (by decide +kernel) rfl
theorem dk_30 : (Jvm.Cond.instanceMethod ({ cls := "DriftNet$Boat", name := "<init>", desc := "(I)V" } : Jvm.MethodName)) ∈ jt_tb := jt_in 54 (by decide +kernel) rfl
theorem dk_31 : (Jvm.Cond.code ({ cls := "DriftNet$Boat", name := "<init>", desc := "(I)V" } : Jvm.MethodName) prog_2_method_1_code (3 : Nat) (Option.none : Option Jvm.ClassFile.FieldType)) ∈ jt_tb := jt_in 55 (by decide +kernel) rfl
theorem dk_32 : (Jvm.Cond.methodLink "DriftNet$Boat" (3 : Nat) ({ cls := "java/lang/Object", name := "<init>", desc := "()V" } : Jvm.MethodName)) ∈ jt_tb := jt_in 56 (by decide +kernel) rfl
theorem dk_33 : (Jvm.Cond.classLink "DriftNet$Boat" (9 : Nat) "DriftNet$Entry") ∈ jt_tb := jt_in 57 (by decide +kernel) rfl
theorem dk_34 : (Jvm.Cond.arrayOver (Jvm.ClassFile.FieldType.object "DriftNet$Entry")) ∈ jt_tb := jt_in 58 (by decide +kernel) rfl
theorem dk_35 : (Jvm.Cond.instantiable "DriftNet$Entry" (9 : Nat)) ∈ jt_tb := jt_in 59 (by decide +kernel) rfl
theorem dk_36 : (Jvm.Cond.methodLinkNest "DriftNet$Boat" (38 : Nat) ({ cls := "DriftNet$Entry", name := "<init>", desc := "()V" } : Jvm.MethodName) "DriftNet") ∈ jt_tb := jt_in 60 (by decide +kernel) rfl
theorem dk_37 : (Jvm.Cond.instanceMethod ({ cls := "DriftNet$Entry", name := "<init>", desc := "()V" } : Jvm.MethodName)) ∈ jt_tb := jt_in 61 (by decide +kernel) rfl
theorem dk_38 : (Jvm.Cond.code ({ cls := "DriftNet$Entry", name := "<init>", desc := "()V" } : Jvm.MethodName) prog_4_method_1_code (1 : Nat) (Option.none : Option Jvm.ClassFile.FieldType)) ∈ jt_tb := jt_in 62 (by decide +kernel) rfl
theorem dk_39 : (Jvm.Cond.methodLink "DriftNet$Entry" (3 : Nat) ({ cls := "java/lang/Object", name := "<init>", desc := "()V" } : Jvm.MethodName)) ∈ jt_tb := jt_in 63 (by decide +kernel) rfl
theorem dk_40 : (Jvm.Cond.fieldLink "DriftNet$Entry" (9 : Nat) "DriftNet$Entry" "number" "I") ∈ jt_tb := jt_in 64 (by decide +kernel) rfl
theorem dk_41 : (Jvm.Cond.fieldLink "DriftNet$Packet" (39 : Nat) "DriftNet$Entry" "number" "I") ∈ jt_tb := jt_in 65 (by decide +kernel) rfl
theorem dk_42 : (Jvm.Cond.fieldLink "DriftNet" (146 : Nat) "DriftNet$Entry" "number" "I") ∈ jt_tb := jt_in 66 (by decide +kernel) rfl
theorem dk_43 : (Jvm.Cond.fieldLink "DriftNet$Entry" (15 : Nat) "DriftNet$Entry" "metric" "I") ∈ jt_tb := jt_in 67 (by decide +kernel) rfl
theorem dk_44 : (Jvm.Cond.fieldLink "DriftNet$Packet" (34 : Nat) "DriftNet$Entry" "metric" "I") ∈ jt_tb := jt_in 68 (by decide +kernel) rfl
theorem dk_45 : (Jvm.Cond.fieldLink "DriftNet" (143 : Nat) "DriftNet$Entry" "metric" "I") ∈ jt_tb := jt_in 69 (by decide +kernel) rfl
theorem dk_46 : (Jvm.Cond.fieldLink "DriftNet$Entry" (18 : Nat) "DriftNet$Entry" "next" "I") ∈ jt_tb := jt_in 70 (by decide +kernel) rfl
theorem dk_47 : (Jvm.Cond.fieldLink "DriftNet$Boat" (76 : Nat) "DriftNet$Entry" "next" "I") ∈ jt_tb := jt_in 71 (by decide +kernel) rfl
theorem dk_48 : (Jvm.Cond.fieldLink "DriftNet" (140 : Nat) "DriftNet$Entry" "next" "I") ∈ jt_tb := jt_in 72 (by decide +kernel) rfl
theorem dk_49 : (Jvm.Cond.fieldLink "DriftNet$Entry" (21 : Nat) "DriftNet$Entry" "shownNumber" "I") ∈ jt_tb := jt_in 73 (by decide +kernel) rfl
theorem dk_50 : (Jvm.Cond.fieldLink "DriftNet$Cast" (34 : Nat) "DriftNet$Entry" "shownNumber" "I") ∈ jt_tb := jt_in 74 (by decide +kernel) rfl
theorem dk_51 : (Jvm.Cond.fieldLink "DriftNet" (152 : Nat) "DriftNet$Entry" "shownNumber" "I") ∈ jt_tb := jt_in 75 (by decide +kernel) rfl
theorem dk_52 : (Jvm.Cond.fieldLink "DriftNet$Entry" (24 : Nat) "DriftNet$Entry" "shownMetric" "I") ∈ jt_tb := jt_in 76 (by decide +kernel) rfl
theorem dk_53 : (Jvm.Cond.fieldLink "DriftNet$Cast" (37 : Nat) "DriftNet$Entry" "shownMetric" "I") ∈ jt_tb := jt_in 77 (by decide +kernel) rfl
theorem dk_54 : (Jvm.Cond.fieldLink "DriftNet" (149 : Nat) "DriftNet$Entry" "shownMetric" "I") ∈ jt_tb := jt_in 78 (by decide +kernel) rfl
theorem dk_55 : (Jvm.Cond.fieldLink "DriftNet$Entry" (27 : Nat) "DriftNet$Entry" "first" "I") ∈ jt_tb := jt_in 79 (by decide +kernel) rfl
theorem dk_56 : (Jvm.Cond.fieldLink "DriftNet$Entry" (30 : Nat) "DriftNet$Entry" "mean" "I") ∈ jt_tb := jt_in 80 (by decide +kernel) rfl
theorem dk_57 : (Jvm.Cond.fieldLink "DriftNet" (155 : Nat) "DriftNet$Entry" "mean" "I") ∈ jt_tb := jt_in 81 (by decide +kernel) rfl
theorem dk_58 : (Jvm.Cond.fieldLink "DriftNet$Entry" (33 : Nat) "DriftNet$Entry" "waits" "Z") ∈ jt_tb := jt_in 82 (by decide +kernel) rfl
theorem dk_59 : (Jvm.Cond.fieldLink "DriftNet" (158 : Nat) "DriftNet$Entry" "waits" "Z") ∈ jt_tb := jt_in 83 (by decide +kernel) rfl
theorem dk_60 : (Jvm.Cond.fieldLink "DriftNet$Entry" (37 : Nat) "DriftNet$Entry" "isFresh" "Z") ∈ jt_tb := jt_in 84 (by decide +kernel) rfl
theorem dk_61 : (Jvm.Cond.fieldLink "DriftNet$Cast" (28 : Nat) "DriftNet$Entry" "isFresh" "Z") ∈ jt_tb := jt_in 85 (by decide +kernel) rfl
theorem dk_81 : (Jvm.Cond.arrayClass Jvm.ClassFile.FieldType.int) ∈ jt_tb := jt_in 105 (by decide +kernel) rfl
theorem dk_82 : (Jvm.Cond.methodLink "DriftNet$Boat" (39 : Nat) ({ cls := "DriftNet$Entry", name := "startAsOwn", desc := "(I)V" } : Jvm.MethodName)) ∈ jt_tb := jt_in 106 (by decide +kernel) rfl
theorem dk_83 : (Jvm.Cond.instanceMethod ({ cls := "DriftNet$Entry", name := "startAsOwn", desc := "(I)V" } : Jvm.MethodName)) ∈ jt_tb := jt_in 107 (by decide +kernel) rfl
theorem dk_84 : (Jvm.Cond.selects "DriftNet$Entry" ({ cls := "DriftNet$Entry", name := "startAsOwn", desc := "(I)V" } : Jvm.MethodName) ({ cls := "DriftNet$Entry", name := "startAsOwn", desc := "(I)V" } : Jvm.MethodName)) ∈ jt_tb := jt_in 108 (by decide +kernel) rfl
theorem dk_85 : (Jvm.Cond.code ({ cls := "DriftNet$Entry", name := "startAsOwn", desc := "(I)V" } : Jvm.MethodName) prog_4_method_2_code (2 : Nat) (Option.none : Option Jvm.ClassFile.FieldType)) ∈ jt_tb := jt_in 109 (by decide +kernel) rfl
theorem dk_86 : (Jvm.Cond.methodLink "DriftNet$Entry" (40 : Nat) ({ cls := "DriftNet$Entry", name := "show", desc := "()V" } : Jvm.MethodName)) ∈ jt_tb := jt_in 110 (by decide +kernel) rfl
theorem dk_88 : (Jvm.Cond.instanceMethod ({ cls := "DriftNet$Entry", name := "show", desc := "()V" } : Jvm.MethodName)) ∈ jt_tb := jt_in 112 (by decide +kernel) rfl
theorem dk_89 : (Jvm.Cond.code ({ cls := "DriftNet$Entry", name := "show", desc := "()V" } : Jvm.MethodName) prog_4_method_9_code (1 : Nat) (Option.none : Option Jvm.ClassFile.FieldType)) ∈ jt_tb := jt_in 113 (by decide +kernel) rfl
theorem dk_90 : (Jvm.Cond.fieldLink "DriftNet$Boat" (35 : Nat) "DriftNet$Boat" "self" "I") ∈ jt_tb := jt_in 114 (by decide +kernel) rfl
theorem dk_91 : (Jvm.Cond.fieldLink "DriftNet" (199 : Nat) "DriftNet$Boat" "self" "I") ∈ jt_tb := jt_in 115 (by decide +kernel) rfl
theorem dk_92 : (Jvm.Cond.fieldLink "DriftNet$Boat" (11 : Nat) "DriftNet$Boat" "entries" "[LDriftNet$Entry;") ∈ jt_tb := jt_in 116 (by decide +kernel) rfl
theorem dk_93 : (Jvm.Cond.fieldLink "DriftNet" (63 : Nat) "DriftNet$Boat" "entries" "[LDriftNet$Entry;") ∈ jt_tb := jt_in 117 (by decide +kernel) rfl
theorem dk_94 : (Jvm.Cond.fieldLink "DriftNet$Boat" (17 : Nat) "DriftNet$Boat" "heardAt" "[I") ∈ jt_tb := jt_in 118 (by decide +kernel) rfl
theorem dk_95 : (Jvm.Cond.fieldLink "DriftNet$Boat" (21 : Nat) "DriftNet$Boat" "words" "[I") ∈ jt_tb := jt_in 119 (by decide +kernel) rfl
theorem dk_96 : (Jvm.Cond.fieldLink "DriftNet" (220 : Nat) "DriftNet$Boat" "words" "[I") ∈ jt_tb := jt_in 120 (by decide +kernel) rfl
theorem dk_97 : (Jvm.Cond.fieldLink "DriftNet$Boat" (24 : Nat) "DriftNet$Boat" "wordCount" "I") ∈ jt_tb := jt_in 121 (by decide +kernel) rfl
theorem dk_98 : (Jvm.Cond.fieldLink "DriftNet" (215 : Nat) "DriftNet$Boat" "wordCount" "I") ∈ jt_tb := jt_in 122 (by decide +kernel) rfl
theorem dk_99 : (Jvm.Cond.fieldLink "DriftNet$Boat" (28 : Nat) "DriftNet$Boat" "linkedBits" "I") ∈ jt_tb := jt_in 123 (by decide +kernel) rfl
theorem dk_100 : (Jvm.Cond.fieldLink "DriftNet" (254 : Nat) "DriftNet$Boat" "linkedBits" "I") ∈ jt_tb := jt_in 124 (by decide +kernel) rfl
theorem dk_101 : (Jvm.Cond.fieldLink "DriftNet$Boat" (31 : Nat) "DriftNet$Boat" "isOn" "Z") ∈ jt_tb := jt_in 125 (by decide +kernel) rfl
theorem dk_102 : (Jvm.Cond.fieldLink "DriftNet" (130 : Nat) "DriftNet$Boat" "isOn" "Z") ∈ jt_tb := jt_in 126 (by decide +kernel) rfl
theorem dk_118 : (Jvm.Cond.instantiable "DriftNet$Cast" (5 : Nat)) ∈ jt_tb := jt_in 142 (by decide +kernel) rfl
theorem dk_119 : (Jvm.Cond.methodLinkNest "DriftNet" (40 : Nat) ({ cls := "DriftNet$Cast", name := "<init>", desc := "()V" } : Jvm.MethodName) "DriftNet") ∈ jt_tb := jt_in 143 (by decide +kernel) rfl
theorem dk_120 : (Jvm.Cond.instanceMethod ({ cls := "DriftNet$Cast", name := "<init>", desc := "()V" } : Jvm.MethodName)) ∈ jt_tb := jt_in 144 (by decide +kernel) rfl
theorem dk_121 : (Jvm.Cond.code ({ cls := "DriftNet$Cast", name := "<init>", desc := "()V" } : Jvm.MethodName) prog_3_method_1_code (1 : Nat) (Option.none : Option Jvm.ClassFile.FieldType)) ∈ jt_tb := jt_in 145 (by decide +kernel) rfl
theorem dk_122 : (Jvm.Cond.methodLink "DriftNet$Cast" (3 : Nat) ({ cls := "java/lang/Object", name := "<init>", desc := "()V" } : Jvm.MethodName)) ∈ jt_tb := jt_in 146 (by decide +kernel) rfl
theorem dk_123 : (Jvm.Cond.fieldLink "DriftNet$Cast" (9 : Nat) "DriftNet$Cast" "goals" "[I") ∈ jt_tb := jt_in 147 (by decide +kernel) rfl
theorem dk_124 : (Jvm.Cond.fieldLink "DriftNet$Boat" (52 : Nat) "DriftNet$Cast" "goals" "[I") ∈ jt_tb := jt_in 148 (by decide +kernel) rfl
theorem dk_125 : (Jvm.Cond.fieldLink "DriftNet" (106 : Nat) "DriftNet$Cast" "goals" "[I") ∈ jt_tb := jt_in 149 (by decide +kernel) rfl
theorem dk_126 : (Jvm.Cond.fieldLink "DriftNet$Cast" (15 : Nat) "DriftNet$Cast" "numbers" "[I") ∈ jt_tb := jt_in 150 (by decide +kernel) rfl
theorem dk_127 : (Jvm.Cond.fieldLink "DriftNet$Boat" (55 : Nat) "DriftNet$Cast" "numbers" "[I") ∈ jt_tb := jt_in 151 (by decide +kernel) rfl
theorem dk_128 : (Jvm.Cond.fieldLink "DriftNet" (110 : Nat) "DriftNet$Cast" "numbers" "[I") ∈ jt_tb := jt_in 152 (by decide +kernel) rfl
theorem dk_129 : (Jvm.Cond.fieldLink "DriftNet$Cast" (18 : Nat) "DriftNet$Cast" "metrics" "[I") ∈ jt_tb := jt_in 153 (by decide +kernel) rfl
theorem dk_130 : (Jvm.Cond.fieldLink "DriftNet$Boat" (58 : Nat) "DriftNet$Cast" "metrics" "[I") ∈ jt_tb := jt_in 154 (by decide +kernel) rfl
theorem dk_131 : (Jvm.Cond.fieldLink "DriftNet" (113 : Nat) "DriftNet$Cast" "metrics" "[I") ∈ jt_tb := jt_in 155 (by decide +kernel) rfl
theorem dk_132 : (Jvm.Cond.fieldLink "DriftNet$Cast" (21 : Nat) "DriftNet$Cast" "sender" "I") ∈ jt_tb := jt_in 156 (by decide +kernel) rfl
theorem dk_133 : (Jvm.Cond.fieldLink "DriftNet$Boat" (43 : Nat) "DriftNet$Cast" "sender" "I") ∈ jt_tb := jt_in 157 (by decide +kernel) rfl
theorem dk_134 : (Jvm.Cond.fieldLink "DriftNet" (116 : Nat) "DriftNet$Cast" "sender" "I") ∈ jt_tb := jt_in 158 (by decide +kernel) rfl
theorem dk_135 : (Jvm.Cond.fieldLink "DriftNet$Cast" (25 : Nat) "DriftNet$Cast" "size" "I") ∈ jt_tb := jt_in 159 (by decide +kernel) rfl
theorem dk_147 : (Jvm.Cond.instantiable "DriftNet$Packet" (7 : Nat)) ∈ jt_tb := jt_in 171 (by decide +kernel) rfl
theorem dk_148 : (Jvm.Cond.methodLinkNest "DriftNet" (41 : Nat) ({ cls := "DriftNet$Packet", name := "<init>", desc := "()V" } : Jvm.MethodName) "DriftNet") ∈ jt_tb := jt_in 172 (by decide +kernel) rfl
theorem dk_149 : (Jvm.Cond.instanceMethod ({ cls := "DriftNet$Packet", name := "<init>", desc := "()V" } : Jvm.MethodName)) ∈ jt_tb := jt_in 173 (by decide +kernel) rfl
theorem dk_150 : (Jvm.Cond.code ({ cls := "DriftNet$Packet", name := "<init>", desc := "()V" } : Jvm.MethodName) prog_5_method_1_code (1 : Nat) (Option.none : Option Jvm.ClassFile.FieldType)) ∈ jt_tb := jt_in 174 (by decide +kernel) rfl
theorem dk_151 : (Jvm.Cond.methodLink "DriftNet$Packet" (3 : Nat) ({ cls := "java/lang/Object", name := "<init>", desc := "()V" } : Jvm.MethodName)) ∈ jt_tb := jt_in 175 (by decide +kernel) rfl
theorem dk_152 : (Jvm.Cond.fieldLink "DriftNet$Packet" (9 : Nat) "DriftNet$Packet" "underWay" "Z") ∈ jt_tb := jt_in 176 (by decide +kernel) rfl
theorem dk_153 : (Jvm.Cond.fieldLink "DriftNet" (206 : Nat) "DriftNet$Packet" "underWay" "Z") ∈ jt_tb := jt_in 177 (by decide +kernel) rfl
theorem dk_154 : (Jvm.Cond.fieldLink "DriftNet$Packet" (15 : Nat) "DriftNet$Packet" "number" "I") ∈ jt_tb := jt_in 178 (by decide +kernel) rfl
theorem dk_155 : (Jvm.Cond.fieldLink "DriftNet" (245 : Nat) "DriftNet$Packet" "number" "I") ∈ jt_tb := jt_in 179 (by decide +kernel) rfl
theorem dk_156 : (Jvm.Cond.fieldLink "DriftNet$Packet" (19 : Nat) "DriftNet$Packet" "at" "I") ∈ jt_tb := jt_in 180 (by decide +kernel) rfl
theorem dk_157 : (Jvm.Cond.fieldLink "DriftNet" (189 : Nat) "DriftNet$Packet" "at" "I") ∈ jt_tb := jt_in 181 (by decide +kernel) rfl
theorem dk_158 : (Jvm.Cond.fieldLink "DriftNet$Packet" (22 : Nat) "DriftNet$Packet" "goal" "I") ∈ jt_tb := jt_in 182 (by decide +kernel) rfl
theorem dk_159 : (Jvm.Cond.fieldLink "DriftNet" (196 : Nat) "DriftNet$Packet" "goal" "I") ∈ jt_tb := jt_in 183 (by decide +kernel) rfl
theorem dk_160 : (Jvm.Cond.fieldLink "DriftNet$Packet" (25 : Nat) "DriftNet$Packet" "word" "I") ∈ jt_tb := jt_in 184 (by decide +kernel) rfl
theorem dk_161 : (Jvm.Cond.fieldLink "DriftNet" (209 : Nat) "DriftNet$Packet" "word" "I") ∈ jt_tb := jt_in 185 (by decide +kernel) rfl
theorem dk_162 : (Jvm.Cond.fieldLink "DriftNet$Packet" (28 : Nat) "DriftNet$Packet" "boundNumber" "I") ∈ jt_tb := jt_in 186 (by decide +kernel) rfl
theorem dk_163 : (Jvm.Cond.fieldLink "DriftNet$Packet" (31 : Nat) "DriftNet$Packet" "boundMetric" "I") ∈ jt_tb := jt_in 187 (by decide +kernel) rfl
theorem dk_179 : (Jvm.Cond.fieldLink "DriftNet" (11 : Nat) "DriftNet" "boats" "[LDriftNet$Boat;") ∈ jt_tb := jt_in 203 (by decide +kernel) rfl
theorem dk_180 : (Jvm.Cond.fieldLink "DriftNet" (17 : Nat) "DriftNet" "casts" "[LDriftNet$Cast;") ∈ jt_tb := jt_in 204 (by decide +kernel) rfl
theorem dk_181 : (Jvm.Cond.fieldLink "DriftNet" (23 : Nat) "DriftNet" "packets" "[LDriftNet$Packet;") ∈ jt_tb := jt_in 205 (by decide +kernel) rfl
theorem dk_182 : (Jvm.Cond.fieldLink "DriftNet" (27 : Nat) "DriftNet" "castCount" "I") ∈ jt_tb := jt_in 206 (by decide +kernel) rfl
theorem dk_183 : (Jvm.Cond.fieldLink "DriftNet" (31 : Nat) "DriftNet" "packetCount" "I") ∈ jt_tb := jt_in 207 (by decide +kernel) rfl
theorem dk_184 : (Jvm.Cond.fieldLink "DriftNet" (34 : Nat) "DriftNet" "now" "I") ∈ jt_tb := jt_in 208 (by decide +kernel) rfl
theorem dk_198 : (Jvm.Cond.methodLink "DriftNetLaw" (105 : Nat) ({ cls := "DriftNet", name := "tick", desc := "()I" } : Jvm.MethodName)) ∈ jt_tb := jt_in 222 (by decide +kernel) rfl
theorem dk_199 : (Jvm.Cond.instanceMethod ({ cls := "DriftNet", name := "tick", desc := "()I" } : Jvm.MethodName)) ∈ jt_tb := jt_in 223 (by decide +kernel) rfl
theorem dk_200 : (Jvm.Cond.selects "DriftNet" ({ cls := "DriftNet", name := "tick", desc := "()I" } : Jvm.MethodName) ({ cls := "DriftNet", name := "tick", desc := "()I" } : Jvm.MethodName)) ∈ jt_tb := jt_in 224 (by decide +kernel) rfl
theorem dk_201 : (Jvm.Cond.code ({ cls := "DriftNet", name := "tick", desc := "()I" } : Jvm.MethodName) prog_1_method_9_code (2 : Nat) (Option.some Jvm.ClassFile.FieldType.int)) ∈ jt_tb := jt_in 225 (by decide +kernel) rfl
theorem dk_202 : (Jvm.Cond.methodLink "DriftNet" (134 : Nat) ({ cls := "DriftNet$Boat", name := "forgetSilent", desc := "(I)V" } : Jvm.MethodName)) ∈ jt_tb := jt_in 226 (by decide +kernel) rfl
theorem dk_203 : (Jvm.Cond.instanceMethod ({ cls := "DriftNet$Boat", name := "forgetSilent", desc := "(I)V" } : Jvm.MethodName)) ∈ jt_tb := jt_in 227 (by decide +kernel) rfl
theorem dk_204 : (Jvm.Cond.selects "DriftNet$Boat" ({ cls := "DriftNet$Boat", name := "forgetSilent", desc := "(I)V" } : Jvm.MethodName) ({ cls := "DriftNet$Boat", name := "forgetSilent", desc := "(I)V" } : Jvm.MethodName)) ∈ jt_tb := jt_in 228 (by decide +kernel) rfl
theorem dk_205 : (Jvm.Cond.code ({ cls := "DriftNet$Boat", name := "forgetSilent", desc := "(I)V" } : Jvm.MethodName) prog_2_method_7_code (3 : Nat) (Option.none : Option Jvm.ClassFile.FieldType)) ∈ jt_tb := jt_in 229 (by decide +kernel) rfl
theorem dk_206 : (Jvm.Cond.methodLink "DriftNet$Boat" (69 : Nat) ({ cls := "DriftNet$Boat", name := "hasHeard", desc := "(I)Z" } : Jvm.MethodName)) ∈ jt_tb := jt_in 230 (by decide +kernel) rfl
theorem dk_207 : (Jvm.Cond.instanceMethod ({ cls := "DriftNet$Boat", name := "hasHeard", desc := "(I)Z" } : Jvm.MethodName)) ∈ jt_tb := jt_in 231 (by decide +kernel) rfl
theorem dk_208 : (Jvm.Cond.selects "DriftNet$Boat" ({ cls := "DriftNet$Boat", name := "hasHeard", desc := "(I)Z" } : Jvm.MethodName) ({ cls := "DriftNet$Boat", name := "hasHeard", desc := "(I)Z" } : Jvm.MethodName)) ∈ jt_tb := jt_in 232 (by decide +kernel) rfl
theorem dk_209 : (Jvm.Cond.code ({ cls := "DriftNet$Boat", name := "hasHeard", desc := "(I)Z" } : Jvm.MethodName) prog_2_method_4_code (2 : Nat) (Option.some Jvm.ClassFile.FieldType.boolean)) ∈ jt_tb := jt_in 233 (by decide +kernel) rfl
theorem dk_210 : (Jvm.Cond.methodLink "DriftNet$Boat" (73 : Nat) ({ cls := "DriftNet$Boat", name := "loseWaysOver", desc := "(I)V" } : Jvm.MethodName)) ∈ jt_tb := jt_in 234 (by decide +kernel) rfl
theorem dk_212 : (Jvm.Cond.instanceMethod ({ cls := "DriftNet$Boat", name := "loseWaysOver", desc := "(I)V" } : Jvm.MethodName)) ∈ jt_tb := jt_in 236 (by decide +kernel) rfl
theorem dk_213 : (Jvm.Cond.code ({ cls := "DriftNet$Boat", name := "loseWaysOver", desc := "(I)V" } : Jvm.MethodName) prog_2_method_8_code (3 : Nat) (Option.none : Option Jvm.ClassFile.FieldType)) ∈ jt_tb := jt_in 237 (by decide +kernel) rfl
theorem dk_214 : (Jvm.Cond.methodLink "DriftNet$Boat" (79 : Nat) ({ cls := "DriftNet$Entry", name := "lose", desc := "()V" } : Jvm.MethodName)) ∈ jt_tb := jt_in 238 (by decide +kernel) rfl
theorem dk_215 : (Jvm.Cond.instanceMethod ({ cls := "DriftNet$Entry", name := "lose", desc := "()V" } : Jvm.MethodName)) ∈ jt_tb := jt_in 239 (by decide +kernel) rfl
theorem dk_216 : (Jvm.Cond.selects "DriftNet$Entry" ({ cls := "DriftNet$Entry", name := "lose", desc := "()V" } : Jvm.MethodName) ({ cls := "DriftNet$Entry", name := "lose", desc := "()V" } : Jvm.MethodName)) ∈ jt_tb := jt_in 240 (by decide +kernel) rfl
theorem dk_217 : (Jvm.Cond.code ({ cls := "DriftNet$Entry", name := "lose", desc := "()V" } : Jvm.MethodName) prog_4_method_7_code (1 : Nat) (Option.none : Option Jvm.ClassFile.FieldType)) ∈ jt_tb := jt_in 241 (by decide +kernel) rfl
theorem dk_218 : (Jvm.Cond.methodLink "DriftNet" (137 : Nat) ({ cls := "DriftNet$Boat", name := "settleEntries", desc := "(I)V" } : Jvm.MethodName)) ∈ jt_tb := jt_in 242 (by decide +kernel) rfl
theorem dk_219 : (Jvm.Cond.instanceMethod ({ cls := "DriftNet$Boat", name := "settleEntries", desc := "(I)V" } : Jvm.MethodName)) ∈ jt_tb := jt_in 243 (by decide +kernel) rfl
theorem dk_220 : (Jvm.Cond.selects "DriftNet$Boat" ({ cls := "DriftNet$Boat", name := "settleEntries", desc := "(I)V" } : Jvm.MethodName) ({ cls := "DriftNet$Boat", name := "settleEntries", desc := "(I)V" } : Jvm.MethodName)) ∈ jt_tb := jt_in 244 (by decide +kernel) rfl
theorem dk_221 : (Jvm.Cond.code ({ cls := "DriftNet$Boat", name := "settleEntries", desc := "(I)V" } : Jvm.MethodName) prog_2_method_9_code (3 : Nat) (Option.none : Option Jvm.ClassFile.FieldType)) ∈ jt_tb := jt_in 245 (by decide +kernel) rfl
theorem dk_222 : (Jvm.Cond.methodLink "DriftNet$Boat" (82 : Nat) ({ cls := "DriftNet$Entry", name := "settle", desc := "(I)V" } : Jvm.MethodName)) ∈ jt_tb := jt_in 246 (by decide +kernel) rfl
theorem dk_223 : (Jvm.Cond.instanceMethod ({ cls := "DriftNet$Entry", name := "settle", desc := "(I)V" } : Jvm.MethodName)) ∈ jt_tb := jt_in 247 (by decide +kernel) rfl
theorem dk_224 : (Jvm.Cond.selects "DriftNet$Entry" ({ cls := "DriftNet$Entry", name := "settle", desc := "(I)V" } : Jvm.MethodName) ({ cls := "DriftNet$Entry", name := "settle", desc := "(I)V" } : Jvm.MethodName)) ∈ jt_tb := jt_in 248 (by decide +kernel) rfl
theorem dk_225 : (Jvm.Cond.code ({ cls := "DriftNet$Entry", name := "settle", desc := "(I)V" } : Jvm.MethodName) prog_4_method_8_code (2 : Nat) (Option.none : Option Jvm.ClassFile.FieldType)) ∈ jt_tb := jt_in 249 (by decide +kernel) rfl
theorem dk_226 : (Jvm.Cond.methodLink "DriftNetLaw" (135 : Nat) ({ cls := "DriftNet", name := "clock", desc := "()I" } : Jvm.MethodName)) ∈ jt_tb := jt_in 250 (by decide +kernel) rfl
theorem dk_227 : (Jvm.Cond.instanceMethod ({ cls := "DriftNet", name := "clock", desc := "()I" } : Jvm.MethodName)) ∈ jt_tb := jt_in 251 (by decide +kernel) rfl
theorem dk_228 : (Jvm.Cond.selects "DriftNet" ({ cls := "DriftNet", name := "clock", desc := "()I" } : Jvm.MethodName) ({ cls := "DriftNet", name := "clock", desc := "()I" } : Jvm.MethodName)) ∈ jt_tb := jt_in 252 (by decide +kernel) rfl
theorem dk_229 : (Jvm.Cond.code ({ cls := "DriftNet", name := "clock", desc := "()I" } : Jvm.MethodName) prog_1_method_18_code (1 : Nat) (Option.some Jvm.ClassFile.FieldType.int)) ∈ jt_tb := jt_in 253 (by decide +kernel) rfl
theorem dk_230 : (Jvm.Cond.methodLink "DriftNetLaw" (73 : Nat) ({ cls := "DriftNetLaw", name := "on", desc := "(LDriftNet;I[J)I" } : Jvm.MethodName)) ∈ jt_tb := jt_in 254 (by decide +kernel) rfl
theorem dk_231 : (Jvm.Cond.static ({ cls := "DriftNetLaw", name := "on", desc := "(LDriftNet;I[J)I" } : Jvm.MethodName)) ∈ jt_tb := jt_in 255 (by decide +kernel) rfl
theorem dk_232 : (Jvm.Cond.codeWith ({ cls := "DriftNetLaw", name := "on", desc := "(LDriftNet;I[J)I" } : Jvm.MethodName) method_3_code (4 : Nat) (Option.some Jvm.ClassFile.FieldType.int) [((0 : Nat), (16 : Nat), (19 : Nat), (13 : Nat))]) ∈ jt_tb := jt_in 256 (by decide +kernel) rfl
theorem dk_234 : (Jvm.Cond.methodLink "DriftNetLaw" (7 : Nat) ({ cls := "DriftNet", name := "on", desc := "(I)Z" } : Jvm.MethodName)) ∈ jt_tb := jt_in 258 (by decide +kernel) rfl
theorem dk_235 : (Jvm.Cond.instanceMethod ({ cls := "DriftNet", name := "on", desc := "(I)Z" } : Jvm.MethodName)) ∈ jt_tb := jt_in 259 (by decide +kernel) rfl
theorem dk_236 : (Jvm.Cond.selects "DriftNet" ({ cls := "DriftNet", name := "on", desc := "(I)Z" } : Jvm.MethodName) ({ cls := "DriftNet", name := "on", desc := "(I)Z" } : Jvm.MethodName)) ∈ jt_tb := jt_in 260 (by decide +kernel) rfl
theorem dk_237 : (Jvm.Cond.code ({ cls := "DriftNet", name := "on", desc := "(I)Z" } : Jvm.MethodName) prog_1_method_2_code (2 : Nat) (Option.some Jvm.ClassFile.FieldType.boolean)) ∈ jt_tb := jt_in 261 (by decide +kernel) rfl
theorem dk_238 : (Jvm.Cond.methodLink "DriftNet" (42 : Nat) ({ cls := "DriftNet", name := "turn", desc := "(IZ)Z" } : Jvm.MethodName)) ∈ jt_tb := jt_in 262 (by decide +kernel) rfl
theorem dk_240 : (Jvm.Cond.instanceMethod ({ cls := "DriftNet", name := "turn", desc := "(IZ)Z" } : Jvm.MethodName)) ∈ jt_tb := jt_in 264 (by decide +kernel) rfl
theorem dk_241 : (Jvm.Cond.code ({ cls := "DriftNet", name := "turn", desc := "(IZ)Z" } : Jvm.MethodName) prog_1_method_24_code (4 : Nat) (Option.some Jvm.ClassFile.FieldType.boolean)) ∈ jt_tb := jt_in 265 (by decide +kernel) rfl
theorem dk_242 : (Jvm.Cond.methodLink "DriftNet" (57 : Nat) ({ cls := "DriftNet", name := "needBoat", desc := "(I)V" } : Jvm.MethodName)) ∈ jt_tb := jt_in 266 (by decide +kernel) rfl
theorem dk_243 : (Jvm.Cond.static ({ cls := "DriftNet", name := "needBoat", desc := "(I)V" } : Jvm.MethodName)) ∈ jt_tb := jt_in 267 (by decide +kernel) rfl
theorem dk_244 : (Jvm.Cond.code ({ cls := "DriftNet", name := "needBoat", desc := "(I)V" } : Jvm.MethodName) prog_1_method_19_code (1 : Nat) (Option.none : Option Jvm.ClassFile.FieldType)) ∈ jt_tb := jt_in 268 (by decide +kernel) rfl
theorem dk_245 : (Jvm.Cond.classLink "DriftNet" (90 : Nat) "java/lang/IllegalArgumentException") ∈ jt_tb := jt_in 269 (by decide +kernel) rfl
theorem dk_246 : (Jvm.Cond.instantiable "java/lang/IllegalArgumentException" (6 : Nat)) ∈ jt_tb := jt_in 270 (by decide +kernel) rfl
theorem dk_286 : (Jvm.Cond.stringRef "DriftNet" (230 : Nat) "there is no such boat") ∈ jt_tb := jt_in 310 (by decide +kernel) rfl
theorem dk_313 : (Jvm.Cond.methodLink "DriftNetLaw" (83 : Nat) ({ cls := "DriftNetLaw", name := "off", desc := "(LDriftNet;I[J)I" } : Jvm.MethodName)) ∈ jt_tb := jt_in 337 (by decide +kernel) rfl
theorem dk_314 : (Jvm.Cond.static ({ cls := "DriftNetLaw", name := "off", desc := "(LDriftNet;I[J)I" } : Jvm.MethodName)) ∈ jt_tb := jt_in 338 (by decide +kernel) rfl
theorem dk_315 : (Jvm.Cond.codeWith ({ cls := "DriftNetLaw", name := "off", desc := "(LDriftNet;I[J)I" } : Jvm.MethodName) method_4_code (4 : Nat) (Option.some Jvm.ClassFile.FieldType.int) [((0 : Nat), (16 : Nat), (19 : Nat), (13 : Nat))]) ∈ jt_tb := jt_in 339 (by decide +kernel) rfl
theorem dk_316 : (Jvm.Cond.methodLink "DriftNetLaw" (15 : Nat) ({ cls := "DriftNet", name := "off", desc := "(I)Z" } : Jvm.MethodName)) ∈ jt_tb := jt_in 340 (by decide +kernel) rfl
theorem dk_317 : (Jvm.Cond.instanceMethod ({ cls := "DriftNet", name := "off", desc := "(I)Z" } : Jvm.MethodName)) ∈ jt_tb := jt_in 341 (by decide +kernel) rfl
theorem dk_318 : (Jvm.Cond.selects "DriftNet" ({ cls := "DriftNet", name := "off", desc := "(I)Z" } : Jvm.MethodName) ({ cls := "DriftNet", name := "off", desc := "(I)Z" } : Jvm.MethodName)) ∈ jt_tb := jt_in 342 (by decide +kernel) rfl
theorem dk_319 : (Jvm.Cond.code ({ cls := "DriftNet", name := "off", desc := "(I)Z" } : Jvm.MethodName) prog_1_method_3_code (2 : Nat) (Option.some Jvm.ClassFile.FieldType.boolean)) ∈ jt_tb := jt_in 343 (by decide +kernel) rfl
theorem dk_320 : (Jvm.Cond.methodLink "DriftNetLaw" (86 : Nat) ({ cls := "DriftNetLaw", name := "link", desc := "(LDriftNet;IIZ[J)I" } : Jvm.MethodName)) ∈ jt_tb := jt_in 344 (by decide +kernel) rfl
theorem dk_321 : (Jvm.Cond.static ({ cls := "DriftNetLaw", name := "link", desc := "(LDriftNet;IIZ[J)I" } : Jvm.MethodName)) ∈ jt_tb := jt_in 345 (by decide +kernel) rfl
theorem dk_322 : (Jvm.Cond.codeWith ({ cls := "DriftNetLaw", name := "link", desc := "(LDriftNet;IIZ[J)I" } : Jvm.MethodName) method_5_code (6 : Nat) (Option.some Jvm.ClassFile.FieldType.int) [((0 : Nat), (19 : Nat), (22 : Nat), (13 : Nat))]) ∈ jt_tb := jt_in 346 (by decide +kernel) rfl
theorem dk_323 : (Jvm.Cond.methodLink "DriftNetLaw" (18 : Nat) ({ cls := "DriftNet", name := "link", desc := "(IIZ)Z" } : Jvm.MethodName)) ∈ jt_tb := jt_in 347 (by decide +kernel) rfl
theorem dk_324 : (Jvm.Cond.instanceMethod ({ cls := "DriftNet", name := "link", desc := "(IIZ)Z" } : Jvm.MethodName)) ∈ jt_tb := jt_in 348 (by decide +kernel) rfl
theorem dk_325 : (Jvm.Cond.selects "DriftNet" ({ cls := "DriftNet", name := "link", desc := "(IIZ)Z" } : Jvm.MethodName) ({ cls := "DriftNet", name := "link", desc := "(IIZ)Z" } : Jvm.MethodName)) ∈ jt_tb := jt_in 349 (by decide +kernel) rfl
theorem dk_326 : (Jvm.Cond.code ({ cls := "DriftNet", name := "link", desc := "(IIZ)Z" } : Jvm.MethodName) prog_1_method_4_code (4 : Nat) (Option.some Jvm.ClassFile.FieldType.boolean)) ∈ jt_tb := jt_in 350 (by decide +kernel) rfl
theorem dk_327 : (Jvm.Cond.methodLink "DriftNet" (46 : Nat) ({ cls := "DriftNet", name := "needTwoBoats", desc := "(II)V" } : Jvm.MethodName)) ∈ jt_tb := jt_in 351 (by decide +kernel) rfl
theorem dk_328 : (Jvm.Cond.static ({ cls := "DriftNet", name := "needTwoBoats", desc := "(II)V" } : Jvm.MethodName)) ∈ jt_tb := jt_in 352 (by decide +kernel) rfl
theorem dk_329 : (Jvm.Cond.code ({ cls := "DriftNet", name := "needTwoBoats", desc := "(II)V" } : Jvm.MethodName) prog_1_method_20_code (2 : Nat) (Option.none : Option Jvm.ClassFile.FieldType)) ∈ jt_tb := jt_in 353 (by decide +kernel) rfl
theorem dk_330 : (Jvm.Cond.stringRef "DriftNet" (232 : Nat) "the boats are the same") ∈ jt_tb := jt_in 354 (by decide +kernel) rfl
theorem dk_331 : (Jvm.Cond.methodLink "DriftNet" (50 : Nat) ({ cls := "DriftNet$Boat", name := "isLinkedTo", desc := "(I)Z" } : Jvm.MethodName)) ∈ jt_tb := jt_in 355 (by decide +kernel) rfl
theorem dk_332 : (Jvm.Cond.instanceMethod ({ cls := "DriftNet$Boat", name := "isLinkedTo", desc := "(I)Z" } : Jvm.MethodName)) ∈ jt_tb := jt_in 356 (by decide +kernel) rfl
theorem dk_333 : (Jvm.Cond.selects "DriftNet$Boat" ({ cls := "DriftNet$Boat", name := "isLinkedTo", desc := "(I)Z" } : Jvm.MethodName) ({ cls := "DriftNet$Boat", name := "isLinkedTo", desc := "(I)Z" } : Jvm.MethodName)) ∈ jt_tb := jt_in 357 (by decide +kernel) rfl
theorem dk_334 : (Jvm.Cond.code ({ cls := "DriftNet$Boat", name := "isLinkedTo", desc := "(I)Z" } : Jvm.MethodName) prog_2_method_2_code (2 : Nat) (Option.some Jvm.ClassFile.FieldType.boolean)) ∈ jt_tb := jt_in 358 (by decide +kernel) rfl
theorem dk_335 : (Jvm.Cond.methodLink "DriftNet" (54 : Nat) ({ cls := "DriftNet$Boat", name := "flipLinkTo", desc := "(I)V" } : Jvm.MethodName)) ∈ jt_tb := jt_in 359 (by decide +kernel) rfl
theorem dk_336 : (Jvm.Cond.instanceMethod ({ cls := "DriftNet$Boat", name := "flipLinkTo", desc := "(I)V" } : Jvm.MethodName)) ∈ jt_tb := jt_in 360 (by decide +kernel) rfl
theorem dk_337 : (Jvm.Cond.selects "DriftNet$Boat" ({ cls := "DriftNet$Boat", name := "flipLinkTo", desc := "(I)V" } : Jvm.MethodName) ({ cls := "DriftNet$Boat", name := "flipLinkTo", desc := "(I)V" } : Jvm.MethodName)) ∈ jt_tb := jt_in 361 (by decide +kernel) rfl
theorem dk_338 : (Jvm.Cond.code ({ cls := "DriftNet$Boat", name := "flipLinkTo", desc := "(I)V" } : Jvm.MethodName) prog_2_method_3_code (2 : Nat) (Option.none : Option Jvm.ClassFile.FieldType)) ∈ jt_tb := jt_in 362 (by decide +kernel) rfl
theorem dk_339 : (Jvm.Cond.methodLink "DriftNetLaw" (90 : Nat) ({ cls := "DriftNetLaw", name := "cast", desc := "(LDriftNet;IZ[J)I" } : Jvm.MethodName)) ∈ jt_tb := jt_in 363 (by decide +kernel) rfl
theorem dk_340 : (Jvm.Cond.static ({ cls := "DriftNetLaw", name := "cast", desc := "(LDriftNet;IZ[J)I" } : Jvm.MethodName)) ∈ jt_tb := jt_in 364 (by decide +kernel) rfl
theorem dk_341 : (Jvm.Cond.codeWith ({ cls := "DriftNetLaw", name := "cast", desc := "(LDriftNet;IZ[J)I" } : Jvm.MethodName) method_6_code (5 : Nat) (Option.some Jvm.ClassFile.FieldType.int) [((0 : Nat), (10 : Nat), (13 : Nat), (13 : Nat)), ((0 : Nat), (10 : Nat), (17 : Nat), (26 : Nat))]) ∈ jt_tb := jt_in 365 (by decide +kernel) rfl
theorem dk_343 : (Jvm.Cond.methodLink "DriftNetLaw" (22 : Nat) ({ cls := "DriftNet", name := "cast", desc := "(IZ)I" } : Jvm.MethodName)) ∈ jt_tb := jt_in 367 (by decide +kernel) rfl
theorem dk_344 : (Jvm.Cond.instanceMethod ({ cls := "DriftNet", name := "cast", desc := "(IZ)I" } : Jvm.MethodName)) ∈ jt_tb := jt_in 368 (by decide +kernel) rfl
theorem dk_345 : (Jvm.Cond.selects "DriftNet" ({ cls := "DriftNet", name := "cast", desc := "(IZ)I" } : Jvm.MethodName) ({ cls := "DriftNet", name := "cast", desc := "(IZ)I" } : Jvm.MethodName)) ∈ jt_tb := jt_in 369 (by decide +kernel) rfl
theorem dk_346 : (Jvm.Cond.code ({ cls := "DriftNet", name := "cast", desc := "(IZ)I" } : Jvm.MethodName) prog_1_method_5_code (4 : Nat) (Option.some Jvm.ClassFile.FieldType.int)) ∈ jt_tb := jt_in 370 (by decide +kernel) rfl
theorem dk_347 : (Jvm.Cond.methodLink "DriftNet" (60 : Nat) ({ cls := "DriftNet", name := "needOn", desc := "(I)V" } : Jvm.MethodName)) ∈ jt_tb := jt_in 371 (by decide +kernel) rfl
theorem dk_349 : (Jvm.Cond.instanceMethod ({ cls := "DriftNet", name := "needOn", desc := "(I)V" } : Jvm.MethodName)) ∈ jt_tb := jt_in 373 (by decide +kernel) rfl
theorem dk_350 : (Jvm.Cond.code ({ cls := "DriftNet", name := "needOn", desc := "(I)V" } : Jvm.MethodName) prog_1_method_21_code (2 : Nat) (Option.none : Option Jvm.ClassFile.FieldType)) ∈ jt_tb := jt_in 374 (by decide +kernel) rfl
theorem dk_351 : (Jvm.Cond.classLink "DriftNet" (119 : Nat) "java/lang/IllegalStateException") ∈ jt_tb := jt_in 375 (by decide +kernel) rfl
theorem dk_352 : (Jvm.Cond.instantiable "java/lang/IllegalStateException" (6 : Nat)) ∈ jt_tb := jt_in 376 (by decide +kernel) rfl
theorem dk_360 : (Jvm.Cond.stringRef "DriftNet" (234 : Nat) "the boat is off") ∈ jt_tb := jt_in 384 (by decide +kernel) rfl
theorem dk_367 : (Jvm.Cond.methodLink "DriftNet" (67 : Nat) ({ cls := "DriftNet$Entry", name := "renew", desc := "()V" } : Jvm.MethodName)) ∈ jt_tb := jt_in 391 (by decide +kernel) rfl
theorem dk_368 : (Jvm.Cond.instanceMethod ({ cls := "DriftNet$Entry", name := "renew", desc := "()V" } : Jvm.MethodName)) ∈ jt_tb := jt_in 392 (by decide +kernel) rfl
theorem dk_369 : (Jvm.Cond.selects "DriftNet$Entry" ({ cls := "DriftNet$Entry", name := "renew", desc := "()V" } : Jvm.MethodName) ({ cls := "DriftNet$Entry", name := "renew", desc := "()V" } : Jvm.MethodName)) ∈ jt_tb := jt_in 393 (by decide +kernel) rfl
theorem dk_370 : (Jvm.Cond.code ({ cls := "DriftNet$Entry", name := "renew", desc := "()V" } : Jvm.MethodName) prog_4_method_3_code (1 : Nat) (Option.none : Option Jvm.ClassFile.FieldType)) ∈ jt_tb := jt_in 394 (by decide +kernel) rfl
theorem dk_371 : (Jvm.Cond.methodLink "DriftNet" (72 : Nat) ({ cls := "DriftNet", name := "keptAt", desc := "(I)LDriftNet$Cast;" } : Jvm.MethodName)) ∈ jt_tb := jt_in 395 (by decide +kernel) rfl
theorem dk_373 : (Jvm.Cond.instanceMethod ({ cls := "DriftNet", name := "keptAt", desc := "(I)LDriftNet$Cast;" } : Jvm.MethodName)) ∈ jt_tb := jt_in 397 (by decide +kernel) rfl
theorem dk_374 : (Jvm.Cond.code ({ cls := "DriftNet", name := "keptAt", desc := "(I)LDriftNet$Cast;" } : Jvm.MethodName) prog_1_method_25_code (2 : Nat) (Option.some (Jvm.ClassFile.FieldType.object "DriftNet$Cast"))) ∈ jt_tb := jt_in 398 (by decide +kernel) rfl
theorem dk_375 : (Jvm.Cond.methodLink "DriftNet" (240 : Nat) ({ cls := "java/lang/Math", name := "floorMod", desc := "(II)I" } : Jvm.MethodName)) ∈ jt_tb := jt_in 399 (by decide +kernel) rfl
theorem dk_376 : (Jvm.Cond.static ({ cls := "java/lang/Math", name := "floorMod", desc := "(II)I" } : Jvm.MethodName)) ∈ jt_tb := jt_in 400 (by decide +kernel) rfl
theorem dk_377 : (Jvm.Cond.code ({ cls := "java/lang/Math", name := "floorMod", desc := "(II)I" } : Jvm.MethodName) prog_12_method_50_code (3 : Nat) (Option.some Jvm.ClassFile.FieldType.int)) ∈ jt_tb := jt_in 401 (by decide +kernel) rfl
theorem dk_378 : (Jvm.Cond.methodLink "DriftNet" (76 : Nat) ({ cls := "DriftNet$Cast", name := "fill", desc := "(I[LDriftNet$Entry;Z)V" } : Jvm.MethodName)) ∈ jt_tb := jt_in 402 (by decide +kernel) rfl
theorem dk_379 : (Jvm.Cond.instanceMethod ({ cls := "DriftNet$Cast", name := "fill", desc := "(I[LDriftNet$Entry;Z)V" } : Jvm.MethodName)) ∈ jt_tb := jt_in 403 (by decide +kernel) rfl
theorem dk_380 : (Jvm.Cond.selects "DriftNet$Cast" ({ cls := "DriftNet$Cast", name := "fill", desc := "(I[LDriftNet$Entry;Z)V" } : Jvm.MethodName) ({ cls := "DriftNet$Cast", name := "fill", desc := "(I[LDriftNet$Entry;Z)V" } : Jvm.MethodName)) ∈ jt_tb := jt_in 404 (by decide +kernel) rfl
theorem dk_381 : (Jvm.Cond.code ({ cls := "DriftNet$Cast", name := "fill", desc := "(I[LDriftNet$Entry;Z)V" } : Jvm.MethodName) prog_3_method_2_code (6 : Nat) (Option.none : Option Jvm.ClassFile.FieldType)) ∈ jt_tb := jt_in 405 (by decide +kernel) rfl
theorem dk_382 : (Jvm.Cond.methodLink "DriftNetLaw" (94 : Nat) ({ cls := "DriftNetLaw", name := "parts", desc := "(LDriftNet;I[J)I" } : Jvm.MethodName)) ∈ jt_tb := jt_in 406 (by decide +kernel) rfl
theorem dk_383 : (Jvm.Cond.static ({ cls := "DriftNetLaw", name := "parts", desc := "(LDriftNet;I[J)I" } : Jvm.MethodName)) ∈ jt_tb := jt_in 407 (by decide +kernel) rfl
theorem dk_384 : (Jvm.Cond.codeWith ({ cls := "DriftNetLaw", name := "parts", desc := "(LDriftNet;I[J)I" } : Jvm.MethodName) method_7_code (4 : Nat) (Option.some Jvm.ClassFile.FieldType.int) [((0 : Nat), (9 : Nat), (12 : Nat), (13 : Nat))]) ∈ jt_tb := jt_in 408 (by decide +kernel) rfl
theorem dk_385 : (Jvm.Cond.methodLink "DriftNetLaw" (28 : Nat) ({ cls := "DriftNet", name := "parts", desc := "(I)I" } : Jvm.MethodName)) ∈ jt_tb := jt_in 409 (by decide +kernel) rfl
theorem dk_386 : (Jvm.Cond.instanceMethod ({ cls := "DriftNet", name := "parts", desc := "(I)I" } : Jvm.MethodName)) ∈ jt_tb := jt_in 410 (by decide +kernel) rfl
theorem dk_387 : (Jvm.Cond.selects "DriftNet" ({ cls := "DriftNet", name := "parts", desc := "(I)I" } : Jvm.MethodName) ({ cls := "DriftNet", name := "parts", desc := "(I)I" } : Jvm.MethodName)) ∈ jt_tb := jt_in 411 (by decide +kernel) rfl
theorem dk_388 : (Jvm.Cond.code ({ cls := "DriftNet", name := "parts", desc := "(I)I" } : Jvm.MethodName) prog_1_method_6_code (2 : Nat) (Option.some Jvm.ClassFile.FieldType.int)) ∈ jt_tb := jt_in 412 (by decide +kernel) rfl
theorem dk_389 : (Jvm.Cond.methodLink "DriftNet" (80 : Nat) ({ cls := "DriftNet", name := "needCast", desc := "(I)V" } : Jvm.MethodName)) ∈ jt_tb := jt_in 413 (by decide +kernel) rfl
theorem dk_391 : (Jvm.Cond.instanceMethod ({ cls := "DriftNet", name := "needCast", desc := "(I)V" } : Jvm.MethodName)) ∈ jt_tb := jt_in 415 (by decide +kernel) rfl
theorem dk_392 : (Jvm.Cond.code ({ cls := "DriftNet", name := "needCast", desc := "(I)V" } : Jvm.MethodName) prog_1_method_22_code (2 : Nat) (Option.none : Option Jvm.ClassFile.FieldType)) ∈ jt_tb := jt_in 416 (by decide +kernel) rfl
theorem dk_393 : (Jvm.Cond.stringRef "DriftNet" (236 : Nat) "there is no such cast") ∈ jt_tb := jt_in 417 (by decide +kernel) rfl
theorem dk_394 : (Jvm.Cond.methodLink "DriftNet" (83 : Nat) ({ cls := "DriftNet$Cast", name := "partCount", desc := "()I" } : Jvm.MethodName)) ∈ jt_tb := jt_in 418 (by decide +kernel) rfl
theorem dk_395 : (Jvm.Cond.instanceMethod ({ cls := "DriftNet$Cast", name := "partCount", desc := "()I" } : Jvm.MethodName)) ∈ jt_tb := jt_in 419 (by decide +kernel) rfl
theorem dk_396 : (Jvm.Cond.selects "DriftNet$Cast" ({ cls := "DriftNet$Cast", name := "partCount", desc := "()I" } : Jvm.MethodName) ({ cls := "DriftNet$Cast", name := "partCount", desc := "()I" } : Jvm.MethodName)) ∈ jt_tb := jt_in 420 (by decide +kernel) rfl
theorem dk_397 : (Jvm.Cond.code ({ cls := "DriftNet$Cast", name := "partCount", desc := "()I" } : Jvm.MethodName) prog_3_method_3_code (1 : Nat) (Option.some Jvm.ClassFile.FieldType.int)) ∈ jt_tb := jt_in 421 (by decide +kernel) rfl
theorem dk_398 : (Jvm.Cond.methodLink "DriftNetLaw" (97 : Nat) ({ cls := "DriftNetLaw", name := "entry", desc := "(LDriftNet;IIII[J)I" } : Jvm.MethodName)) ∈ jt_tb := jt_in 422 (by decide +kernel) rfl
theorem dk_399 : (Jvm.Cond.static ({ cls := "DriftNetLaw", name := "entry", desc := "(LDriftNet;IIII[J)I" } : Jvm.MethodName)) ∈ jt_tb := jt_in 423 (by decide +kernel) rfl
theorem dk_400 : (Jvm.Cond.codeWith ({ cls := "DriftNetLaw", name := "entry", desc := "(LDriftNet;IIII[J)I" } : Jvm.MethodName) method_8_code (7 : Nat) (Option.some Jvm.ClassFile.FieldType.int) [((0 : Nat), (14 : Nat), (17 : Nat), (13 : Nat)), ((0 : Nat), (14 : Nat), (21 : Nat), (36 : Nat))]) ∈ jt_tb := jt_in 424 (by decide +kernel) rfl
theorem dk_402 : (Jvm.Cond.methodLink "DriftNetLaw" (32 : Nat) ({ cls := "DriftNet", name := "entry", desc := "(IIII)I" } : Jvm.MethodName)) ∈ jt_tb := jt_in 426 (by decide +kernel) rfl
theorem dk_403 : (Jvm.Cond.instanceMethod ({ cls := "DriftNet", name := "entry", desc := "(IIII)I" } : Jvm.MethodName)) ∈ jt_tb := jt_in 427 (by decide +kernel) rfl
theorem dk_404 : (Jvm.Cond.selects "DriftNet" ({ cls := "DriftNet", name := "entry", desc := "(IIII)I" } : Jvm.MethodName) ({ cls := "DriftNet", name := "entry", desc := "(IIII)I" } : Jvm.MethodName)) ∈ jt_tb := jt_in 428 (by decide +kernel) rfl
theorem dk_405 : (Jvm.Cond.code ({ cls := "DriftNet", name := "entry", desc := "(IIII)I" } : Jvm.MethodName) prog_1_method_7_code (7 : Nat) (Option.some Jvm.ClassFile.FieldType.int)) ∈ jt_tb := jt_in 429 (by decide +kernel) rfl
theorem dk_406 : (Jvm.Cond.methodLink "DriftNet" (87 : Nat) ({ cls := "DriftNet", name := "needPart", desc := "(II)V" } : Jvm.MethodName)) ∈ jt_tb := jt_in 430 (by decide +kernel) rfl
theorem dk_408 : (Jvm.Cond.instanceMethod ({ cls := "DriftNet", name := "needPart", desc := "(II)V" } : Jvm.MethodName)) ∈ jt_tb := jt_in 432 (by decide +kernel) rfl
theorem dk_409 : (Jvm.Cond.code ({ cls := "DriftNet", name := "needPart", desc := "(II)V" } : Jvm.MethodName) prog_1_method_23_code (3 : Nat) (Option.none : Option Jvm.ClassFile.FieldType)) ∈ jt_tb := jt_in 433 (by decide +kernel) rfl
theorem dk_410 : (Jvm.Cond.stringRef "DriftNet" (238 : Nat) "there is no such part") ∈ jt_tb := jt_in 434 (by decide +kernel) rfl
theorem dk_411 : (Jvm.Cond.stringRef "DriftNet" (92 : Nat) "what is 0, 1 or 2") ∈ jt_tb := jt_in 435 (by decide +kernel) rfl
theorem dk_412 : (Jvm.Cond.methodLink "DriftNet" (97 : Nat) ({ cls := "DriftNet$Cast", name := "sizeOfPart", desc := "(I)I" } : Jvm.MethodName)) ∈ jt_tb := jt_in 436 (by decide +kernel) rfl
theorem dk_413 : (Jvm.Cond.instanceMethod ({ cls := "DriftNet$Cast", name := "sizeOfPart", desc := "(I)I" } : Jvm.MethodName)) ∈ jt_tb := jt_in 437 (by decide +kernel) rfl
theorem dk_414 : (Jvm.Cond.selects "DriftNet$Cast" ({ cls := "DriftNet$Cast", name := "sizeOfPart", desc := "(I)I" } : Jvm.MethodName) ({ cls := "DriftNet$Cast", name := "sizeOfPart", desc := "(I)I" } : Jvm.MethodName)) ∈ jt_tb := jt_in 438 (by decide +kernel) rfl
theorem dk_415 : (Jvm.Cond.code ({ cls := "DriftNet$Cast", name := "sizeOfPart", desc := "(I)I" } : Jvm.MethodName) prog_3_method_4_code (2 : Nat) (Option.some Jvm.ClassFile.FieldType.int)) ∈ jt_tb := jt_in 439 (by decide +kernel) rfl
theorem dk_416 : (Jvm.Cond.methodLink "DriftNet$Cast" (40 : Nat) ({ cls := "java/lang/Math", name := "min", desc := "(II)I" } : Jvm.MethodName)) ∈ jt_tb := jt_in 440 (by decide +kernel) rfl
theorem dk_417 : (Jvm.Cond.static ({ cls := "java/lang/Math", name := "min", desc := "(II)I" } : Jvm.MethodName)) ∈ jt_tb := jt_in 441 (by decide +kernel) rfl
theorem dk_418 : (Jvm.Cond.code ({ cls := "java/lang/Math", name := "min", desc := "(II)I" } : Jvm.MethodName) prog_12_method_69_code (2 : Nat) (Option.some Jvm.ClassFile.FieldType.int)) ∈ jt_tb := jt_in 442 (by decide +kernel) rfl
theorem dk_419 : (Jvm.Cond.classLink "DriftNet" (101 : Nat) "java/lang/IndexOutOfBoundsException") ∈ jt_tb := jt_in 443 (by decide +kernel) rfl
theorem dk_420 : (Jvm.Cond.instantiable "java/lang/IndexOutOfBoundsException" (6 : Nat)) ∈ jt_tb := jt_in 444 (by decide +kernel) rfl
theorem dk_428 : (Jvm.Cond.stringRef "DriftNet" (103 : Nat) "the part has no such entry") ∈ jt_tb := jt_in 452 (by decide +kernel) rfl
theorem dk_435 : (Jvm.Cond.methodLink "DriftNetLaw" (101 : Nat) ({ cls := "DriftNetLaw", name := "hear", desc := "(LDriftNet;IIIZ[J)I" } : Jvm.MethodName)) ∈ jt_tb := jt_in 459 (by decide +kernel) rfl
theorem dk_436 : (Jvm.Cond.static ({ cls := "DriftNetLaw", name := "hear", desc := "(LDriftNet;IIIZ[J)I" } : Jvm.MethodName)) ∈ jt_tb := jt_in 460 (by decide +kernel) rfl
theorem dk_437 : (Jvm.Cond.codeWith ({ cls := "DriftNetLaw", name := "hear", desc := "(LDriftNet;IIIZ[J)I" } : Jvm.MethodName) method_9_code (7 : Nat) (Option.some Jvm.ClassFile.FieldType.int) [((0 : Nat), (14 : Nat), (17 : Nat), (13 : Nat)), ((0 : Nat), (14 : Nat), (21 : Nat), (26 : Nat))]) ∈ jt_tb := jt_in 461 (by decide +kernel) rfl
theorem dk_438 : (Jvm.Cond.methodLink "DriftNetLaw" (38 : Nat) ({ cls := "DriftNet", name := "hear", desc := "(IIIZ)I" } : Jvm.MethodName)) ∈ jt_tb := jt_in 462 (by decide +kernel) rfl
theorem dk_439 : (Jvm.Cond.instanceMethod ({ cls := "DriftNet", name := "hear", desc := "(IIIZ)I" } : Jvm.MethodName)) ∈ jt_tb := jt_in 463 (by decide +kernel) rfl
theorem dk_440 : (Jvm.Cond.selects "DriftNet" ({ cls := "DriftNet", name := "hear", desc := "(IIIZ)I" } : Jvm.MethodName) ({ cls := "DriftNet", name := "hear", desc := "(IIIZ)I" } : Jvm.MethodName)) ∈ jt_tb := jt_in 464 (by decide +kernel) rfl
theorem dk_441 : (Jvm.Cond.code ({ cls := "DriftNet", name := "hear", desc := "(IIIZ)I" } : Jvm.MethodName) prog_1_method_8_code (6 : Nat) (Option.some Jvm.ClassFile.FieldType.int)) ∈ jt_tb := jt_in 465 (by decide +kernel) rfl
theorem dk_442 : (Jvm.Cond.stringRef "DriftNet" (121 : Nat) "the boat sent it") ∈ jt_tb := jt_in 466 (by decide +kernel) rfl
theorem dk_443 : (Jvm.Cond.stringRef "DriftNet" (124 : Nat) "the boats are not linked") ∈ jt_tb := jt_in 467 (by decide +kernel) rfl
theorem dk_444 : (Jvm.Cond.methodLink "DriftNet" (126 : Nat) ({ cls := "DriftNet$Boat", name := "listenTo", desc := "(LDriftNet$Cast;II)I" } : Jvm.MethodName)) ∈ jt_tb := jt_in 468 (by decide +kernel) rfl
theorem dk_445 : (Jvm.Cond.instanceMethod ({ cls := "DriftNet$Boat", name := "listenTo", desc := "(LDriftNet$Cast;II)I" } : Jvm.MethodName)) ∈ jt_tb := jt_in 469 (by decide +kernel) rfl
theorem dk_446 : (Jvm.Cond.selects "DriftNet$Boat" ({ cls := "DriftNet$Boat", name := "listenTo", desc := "(LDriftNet$Cast;II)I" } : Jvm.MethodName) ({ cls := "DriftNet$Boat", name := "listenTo", desc := "(LDriftNet$Cast;II)I" } : Jvm.MethodName)) ∈ jt_tb := jt_in 470 (by decide +kernel) rfl
theorem dk_447 : (Jvm.Cond.code ({ cls := "DriftNet$Boat", name := "listenTo", desc := "(LDriftNet$Cast;II)I" } : Jvm.MethodName) prog_2_method_6_code (11 : Nat) (Option.some Jvm.ClassFile.FieldType.int)) ∈ jt_tb := jt_in 471 (by decide +kernel) rfl
theorem dk_448 : (Jvm.Cond.methodLink "DriftNet$Boat" (48 : Nat) ({ cls := "DriftNet$Cast", name := "sizeOfPart", desc := "(I)I" } : Jvm.MethodName)) ∈ jt_tb := jt_in 472 (by decide +kernel) rfl
theorem dk_449 : (Jvm.Cond.methodLink "DriftNet$Boat" (61 : Nat) ({ cls := "DriftNet$Entry", name := "isBetteredBy", desc := "(II)Z" } : Jvm.MethodName)) ∈ jt_tb := jt_in 473 (by decide +kernel) rfl
theorem dk_450 : (Jvm.Cond.instanceMethod ({ cls := "DriftNet$Entry", name := "isBetteredBy", desc := "(II)Z" } : Jvm.MethodName)) ∈ jt_tb := jt_in 474 (by decide +kernel) rfl
theorem dk_451 : (Jvm.Cond.selects "DriftNet$Entry" ({ cls := "DriftNet$Entry", name := "isBetteredBy", desc := "(II)Z" } : Jvm.MethodName) ({ cls := "DriftNet$Entry", name := "isBetteredBy", desc := "(II)Z" } : Jvm.MethodName)) ∈ jt_tb := jt_in 475 (by decide +kernel) rfl
theorem dk_452 : (Jvm.Cond.code ({ cls := "DriftNet$Entry", name := "isBetteredBy", desc := "(II)Z" } : Jvm.MethodName) prog_4_method_4_code (3 : Nat) (Option.some Jvm.ClassFile.FieldType.boolean)) ∈ jt_tb := jt_in 476 (by decide +kernel) rfl
theorem dk_453 : (Jvm.Cond.methodLink "DriftNet$Boat" (65 : Nat) ({ cls := "DriftNet$Entry", name := "take", desc := "(IIII)V" } : Jvm.MethodName)) ∈ jt_tb := jt_in 477 (by decide +kernel) rfl
theorem dk_454 : (Jvm.Cond.instanceMethod ({ cls := "DriftNet$Entry", name := "take", desc := "(IIII)V" } : Jvm.MethodName)) ∈ jt_tb := jt_in 478 (by decide +kernel) rfl
theorem dk_455 : (Jvm.Cond.selects "DriftNet$Entry" ({ cls := "DriftNet$Entry", name := "take", desc := "(IIII)V" } : Jvm.MethodName) ({ cls := "DriftNet$Entry", name := "take", desc := "(IIII)V" } : Jvm.MethodName)) ∈ jt_tb := jt_in 479 (by decide +kernel) rfl
theorem dk_456 : (Jvm.Cond.code ({ cls := "DriftNet$Entry", name := "take", desc := "(IIII)V" } : Jvm.MethodName) prog_4_method_5_code (5 : Nat) (Option.none : Option Jvm.ClassFile.FieldType)) ∈ jt_tb := jt_in 480 (by decide +kernel) rfl
theorem dk_457 : (Jvm.Cond.methodLink "DriftNet$Entry" (43 : Nat) ({ cls := "DriftNet$Entry", name := "isShownAtOnce", desc := "()Z" } : Jvm.MethodName)) ∈ jt_tb := jt_in 481 (by decide +kernel) rfl
theorem dk_459 : (Jvm.Cond.instanceMethod ({ cls := "DriftNet$Entry", name := "isShownAtOnce", desc := "()Z" } : Jvm.MethodName)) ∈ jt_tb := jt_in 483 (by decide +kernel) rfl
theorem dk_460 : (Jvm.Cond.code ({ cls := "DriftNet$Entry", name := "isShownAtOnce", desc := "()Z" } : Jvm.MethodName) prog_4_method_6_code (1 : Nat) (Option.some Jvm.ClassFile.FieldType.boolean)) ∈ jt_tb := jt_in 484 (by decide +kernel) rfl
theorem dk_461 : (Jvm.Cond.methodLink "DriftNetLaw" (109 : Nat) ({ cls := "DriftNetLaw", name := "route", desc := "(LDriftNet;III[J)I" } : Jvm.MethodName)) ∈ jt_tb := jt_in 485 (by decide +kernel) rfl
theorem dk_462 : (Jvm.Cond.static ({ cls := "DriftNetLaw", name := "route", desc := "(LDriftNet;III[J)I" } : Jvm.MethodName)) ∈ jt_tb := jt_in 486 (by decide +kernel) rfl
theorem dk_463 : (Jvm.Cond.codeWith ({ cls := "DriftNetLaw", name := "route", desc := "(LDriftNet;III[J)I" } : Jvm.MethodName) method_10_code (6 : Nat) (Option.some Jvm.ClassFile.FieldType.int) [((0 : Nat), (12 : Nat), (15 : Nat), (13 : Nat))]) ∈ jt_tb := jt_in 487 (by decide +kernel) rfl
theorem dk_464 : (Jvm.Cond.methodLink "DriftNetLaw" (42 : Nat) ({ cls := "DriftNet", name := "route", desc := "(III)I" } : Jvm.MethodName)) ∈ jt_tb := jt_in 488 (by decide +kernel) rfl
theorem dk_465 : (Jvm.Cond.instanceMethod ({ cls := "DriftNet", name := "route", desc := "(III)I" } : Jvm.MethodName)) ∈ jt_tb := jt_in 489 (by decide +kernel) rfl
theorem dk_466 : (Jvm.Cond.selects "DriftNet" ({ cls := "DriftNet", name := "route", desc := "(III)I" } : Jvm.MethodName) ({ cls := "DriftNet", name := "route", desc := "(III)I" } : Jvm.MethodName)) ∈ jt_tb := jt_in 490 (by decide +kernel) rfl
theorem dk_467 : (Jvm.Cond.code ({ cls := "DriftNet", name := "route", desc := "(III)I" } : Jvm.MethodName) prog_1_method_10_code (5 : Nat) (Option.some Jvm.ClassFile.FieldType.int)) ∈ jt_tb := jt_in 491 (by decide +kernel) rfl
theorem dk_468 : (Jvm.Cond.stringRef "DriftNet" (161 : Nat) "what is 0 to 6") ∈ jt_tb := jt_in 492 (by decide +kernel) rfl
theorem dk_469 : (Jvm.Cond.methodLink "DriftNetLaw" (113 : Nat) ({ cls := "DriftNetLaw", name := "two", desc := "(LDriftNet;II[J)I" } : Jvm.MethodName)) ∈ jt_tb := jt_in 493 (by decide +kernel) rfl
theorem dk_470 : (Jvm.Cond.static ({ cls := "DriftNetLaw", name := "two", desc := "(LDriftNet;II[J)I" } : Jvm.MethodName)) ∈ jt_tb := jt_in 494 (by decide +kernel) rfl
theorem dk_471 : (Jvm.Cond.codeWith ({ cls := "DriftNetLaw", name := "two", desc := "(LDriftNet;II[J)I" } : Jvm.MethodName) method_11_code (5 : Nat) (Option.some Jvm.ClassFile.FieldType.int) [((0 : Nat), (17 : Nat), (20 : Nat), (13 : Nat))]) ∈ jt_tb := jt_in 495 (by decide +kernel) rfl
theorem dk_472 : (Jvm.Cond.methodLink "DriftNetLaw" (46 : Nat) ({ cls := "DriftNet", name := "two", desc := "(II)Z" } : Jvm.MethodName)) ∈ jt_tb := jt_in 496 (by decide +kernel) rfl
theorem dk_473 : (Jvm.Cond.instanceMethod ({ cls := "DriftNet", name := "two", desc := "(II)Z" } : Jvm.MethodName)) ∈ jt_tb := jt_in 497 (by decide +kernel) rfl
theorem dk_474 : (Jvm.Cond.selects "DriftNet" ({ cls := "DriftNet", name := "two", desc := "(II)Z" } : Jvm.MethodName) ({ cls := "DriftNet", name := "two", desc := "(II)Z" } : Jvm.MethodName)) ∈ jt_tb := jt_in 498 (by decide +kernel) rfl
theorem dk_475 : (Jvm.Cond.code ({ cls := "DriftNet", name := "two", desc := "(II)Z" } : Jvm.MethodName) prog_1_method_11_code (3 : Nat) (Option.some Jvm.ClassFile.FieldType.boolean)) ∈ jt_tb := jt_in 499 (by decide +kernel) rfl
theorem dk_476 : (Jvm.Cond.methodLink "DriftNet" (163 : Nat) ({ cls := "DriftNet$Boat", name := "hasHeard", desc := "(I)Z" } : Jvm.MethodName)) ∈ jt_tb := jt_in 500 (by decide +kernel) rfl
theorem dk_477 : (Jvm.Cond.methodLink "DriftNetLaw" (117 : Nat) ({ cls := "DriftNetLaw", name := "send", desc := "(LDriftNet;III[J)I" } : Jvm.MethodName)) ∈ jt_tb := jt_in 501 (by decide +kernel) rfl
theorem dk_478 : (Jvm.Cond.static ({ cls := "DriftNetLaw", name := "send", desc := "(LDriftNet;III[J)I" } : Jvm.MethodName)) ∈ jt_tb := jt_in 502 (by decide +kernel) rfl
theorem dk_479 : (Jvm.Cond.codeWith ({ cls := "DriftNetLaw", name := "send", desc := "(LDriftNet;III[J)I" } : Jvm.MethodName) method_12_code (6 : Nat) (Option.some Jvm.ClassFile.FieldType.int) [((0 : Nat), (12 : Nat), (15 : Nat), (13 : Nat)), ((0 : Nat), (12 : Nat), (19 : Nat), (26 : Nat))]) ∈ jt_tb := jt_in 503 (by decide +kernel) rfl
theorem dk_480 : (Jvm.Cond.methodLink "DriftNetLaw" (50 : Nat) ({ cls := "DriftNet", name := "send", desc := "(III)I" } : Jvm.MethodName)) ∈ jt_tb := jt_in 504 (by decide +kernel) rfl
theorem dk_481 : (Jvm.Cond.instanceMethod ({ cls := "DriftNet", name := "send", desc := "(III)I" } : Jvm.MethodName)) ∈ jt_tb := jt_in 505 (by decide +kernel) rfl
theorem dk_482 : (Jvm.Cond.selects "DriftNet" ({ cls := "DriftNet", name := "send", desc := "(III)I" } : Jvm.MethodName) ({ cls := "DriftNet", name := "send", desc := "(III)I" } : Jvm.MethodName)) ∈ jt_tb := jt_in 506 (by decide +kernel) rfl
theorem dk_483 : (Jvm.Cond.code ({ cls := "DriftNet", name := "send", desc := "(III)I" } : Jvm.MethodName) prog_1_method_12_code (6 : Nat) (Option.some Jvm.ClassFile.FieldType.int)) ∈ jt_tb := jt_in 507 (by decide +kernel) rfl
theorem dk_484 : (Jvm.Cond.stringRef "DriftNet" (166 : Nat) "the boat has no entry for the goal") ∈ jt_tb := jt_in 508 (by decide +kernel) rfl
theorem dk_485 : (Jvm.Cond.methodLink "DriftNet" (168 : Nat) ({ cls := "DriftNet", name := "packetsAt", desc := "(I)I" } : Jvm.MethodName)) ∈ jt_tb := jt_in 509 (by decide +kernel) rfl
theorem dk_487 : (Jvm.Cond.instanceMethod ({ cls := "DriftNet", name := "packetsAt", desc := "(I)I" } : Jvm.MethodName)) ∈ jt_tb := jt_in 511 (by decide +kernel) rfl
theorem dk_488 : (Jvm.Cond.code ({ cls := "DriftNet", name := "packetsAt", desc := "(I)I" } : Jvm.MethodName) prog_1_method_28_code (4 : Nat) (Option.some Jvm.ClassFile.FieldType.int)) ∈ jt_tb := jt_in 512 (by decide +kernel) rfl
theorem dk_489 : (Jvm.Cond.stringRef "DriftNet" (171 : Nat) "too many packets are at the boat") ∈ jt_tb := jt_in 513 (by decide +kernel) rfl
theorem dk_490 : (Jvm.Cond.methodLink "DriftNet" (173 : Nat) ({ cls := "DriftNet", name := "freePacket", desc := "()LDriftNet$Packet;" } : Jvm.MethodName)) ∈ jt_tb := jt_in 514 (by decide +kernel) rfl
theorem dk_492 : (Jvm.Cond.instanceMethod ({ cls := "DriftNet", name := "freePacket", desc := "()LDriftNet$Packet;" } : Jvm.MethodName)) ∈ jt_tb := jt_in 516 (by decide +kernel) rfl
theorem dk_493 : (Jvm.Cond.code ({ cls := "DriftNet", name := "freePacket", desc := "()LDriftNet$Packet;" } : Jvm.MethodName) prog_1_method_27_code (2 : Nat) (Option.some (Jvm.ClassFile.FieldType.object "DriftNet$Packet"))) ∈ jt_tb := jt_in 517 (by decide +kernel) rfl
theorem dk_494 : (Jvm.Cond.stringRef "DriftNet" (177 : Nat) "too many packets are under way") ∈ jt_tb := jt_in 518 (by decide +kernel) rfl
theorem dk_495 : (Jvm.Cond.methodLink "DriftNet" (179 : Nat) ({ cls := "DriftNet$Packet", name := "start", desc := "(IIII)V" } : Jvm.MethodName)) ∈ jt_tb := jt_in 519 (by decide +kernel) rfl
theorem dk_496 : (Jvm.Cond.instanceMethod ({ cls := "DriftNet$Packet", name := "start", desc := "(IIII)V" } : Jvm.MethodName)) ∈ jt_tb := jt_in 520 (by decide +kernel) rfl
theorem dk_497 : (Jvm.Cond.selects "DriftNet$Packet" ({ cls := "DriftNet$Packet", name := "start", desc := "(IIII)V" } : Jvm.MethodName) ({ cls := "DriftNet$Packet", name := "start", desc := "(IIII)V" } : Jvm.MethodName)) ∈ jt_tb := jt_in 521 (by decide +kernel) rfl
theorem dk_498 : (Jvm.Cond.code ({ cls := "DriftNet$Packet", name := "start", desc := "(IIII)V" } : Jvm.MethodName) prog_5_method_2_code (5 : Nat) (Option.none : Option Jvm.ClassFile.FieldType)) ∈ jt_tb := jt_in 522 (by decide +kernel) rfl
theorem dk_499 : (Jvm.Cond.methodLink "DriftNetLaw" (120 : Nat) ({ cls := "DriftNetLaw", name := "move", desc := "(LDriftNet;I[J)I" } : Jvm.MethodName)) ∈ jt_tb := jt_in 523 (by decide +kernel) rfl
theorem dk_500 : (Jvm.Cond.static ({ cls := "DriftNetLaw", name := "move", desc := "(LDriftNet;I[J)I" } : Jvm.MethodName)) ∈ jt_tb := jt_in 524 (by decide +kernel) rfl
theorem dk_501 : (Jvm.Cond.codeWith ({ cls := "DriftNetLaw", name := "move", desc := "(LDriftNet;I[J)I" } : Jvm.MethodName) method_13_code (4 : Nat) (Option.some Jvm.ClassFile.FieldType.int) [((0 : Nat), (9 : Nat), (12 : Nat), (13 : Nat)), ((0 : Nat), (9 : Nat), (15 : Nat), (26 : Nat))]) ∈ jt_tb := jt_in 525 (by decide +kernel) rfl
theorem dk_502 : (Jvm.Cond.methodLink "DriftNetLaw" (53 : Nat) ({ cls := "DriftNet", name := "move", desc := "(I)I" } : Jvm.MethodName)) ∈ jt_tb := jt_in 526 (by decide +kernel) rfl
theorem dk_503 : (Jvm.Cond.instanceMethod ({ cls := "DriftNet", name := "move", desc := "(I)I" } : Jvm.MethodName)) ∈ jt_tb := jt_in 527 (by decide +kernel) rfl
theorem dk_504 : (Jvm.Cond.selects "DriftNet" ({ cls := "DriftNet", name := "move", desc := "(I)I" } : Jvm.MethodName) ({ cls := "DriftNet", name := "move", desc := "(I)I" } : Jvm.MethodName)) ∈ jt_tb := jt_in 528 (by decide +kernel) rfl
theorem dk_505 : (Jvm.Cond.code ({ cls := "DriftNet", name := "move", desc := "(I)I" } : Jvm.MethodName) prog_1_method_13_code (4 : Nat) (Option.some Jvm.ClassFile.FieldType.int)) ∈ jt_tb := jt_in 529 (by decide +kernel) rfl
theorem dk_506 : (Jvm.Cond.methodLink "DriftNet" (183 : Nat) ({ cls := "DriftNet", name := "packetNumbered", desc := "(I)LDriftNet$Packet;" } : Jvm.MethodName)) ∈ jt_tb := jt_in 530 (by decide +kernel) rfl
theorem dk_508 : (Jvm.Cond.instanceMethod ({ cls := "DriftNet", name := "packetNumbered", desc := "(I)LDriftNet$Packet;" } : Jvm.MethodName)) ∈ jt_tb := jt_in 532 (by decide +kernel) rfl
theorem dk_509 : (Jvm.Cond.code ({ cls := "DriftNet", name := "packetNumbered", desc := "(I)LDriftNet$Packet;" } : Jvm.MethodName) prog_1_method_26_code (3 : Nat) (Option.some (Jvm.ClassFile.FieldType.object "DriftNet$Packet"))) ∈ jt_tb := jt_in 533 (by decide +kernel) rfl
theorem dk_510 : (Jvm.Cond.stringRef "DriftNet" (187 : Nat) "no such packet is under way") ∈ jt_tb := jt_in 534 (by decide +kernel) rfl
theorem dk_511 : (Jvm.Cond.methodLink "DriftNet" (192 : Nat) ({ cls := "DriftNet", name := "mayGoOn", desc := "(LDriftNet$Packet;)Z" } : Jvm.MethodName)) ∈ jt_tb := jt_in 535 (by decide +kernel) rfl
theorem dk_513 : (Jvm.Cond.instanceMethod ({ cls := "DriftNet", name := "mayGoOn", desc := "(LDriftNet$Packet;)Z" } : Jvm.MethodName)) ∈ jt_tb := jt_in 537 (by decide +kernel) rfl
theorem dk_514 : (Jvm.Cond.code ({ cls := "DriftNet", name := "mayGoOn", desc := "(LDriftNet$Packet;)Z" } : Jvm.MethodName) prog_1_method_29_code (4 : Nat) (Option.some Jvm.ClassFile.FieldType.boolean)) ∈ jt_tb := jt_in 538 (by decide +kernel) rfl
theorem dk_515 : (Jvm.Cond.methodLink "DriftNet" (246 : Nat) ({ cls := "DriftNet$Packet", name := "isDrawnBy", desc := "(LDriftNet$Entry;)Z" } : Jvm.MethodName)) ∈ jt_tb := jt_in 539 (by decide +kernel) rfl
theorem dk_516 : (Jvm.Cond.instanceMethod ({ cls := "DriftNet$Packet", name := "isDrawnBy", desc := "(LDriftNet$Entry;)Z" } : Jvm.MethodName)) ∈ jt_tb := jt_in 540 (by decide +kernel) rfl
theorem dk_517 : (Jvm.Cond.selects "DriftNet$Packet" ({ cls := "DriftNet$Packet", name := "isDrawnBy", desc := "(LDriftNet$Entry;)Z" } : Jvm.MethodName) ({ cls := "DriftNet$Packet", name := "isDrawnBy", desc := "(LDriftNet$Entry;)Z" } : Jvm.MethodName)) ∈ jt_tb := jt_in 541 (by decide +kernel) rfl
theorem dk_518 : (Jvm.Cond.code ({ cls := "DriftNet$Packet", name := "isDrawnBy", desc := "(LDriftNet$Entry;)Z" } : Jvm.MethodName) prog_5_method_3_code (2 : Nat) (Option.some Jvm.ClassFile.FieldType.boolean)) ∈ jt_tb := jt_in 542 (by decide +kernel) rfl
theorem dk_519 : (Jvm.Cond.methodLink "DriftNet" (250 : Nat) ({ cls := "DriftNet", name := "hasRoom", desc := "(II)Z" } : Jvm.MethodName)) ∈ jt_tb := jt_in 543 (by decide +kernel) rfl
theorem dk_521 : (Jvm.Cond.instanceMethod ({ cls := "DriftNet", name := "hasRoom", desc := "(II)Z" } : Jvm.MethodName)) ∈ jt_tb := jt_in 545 (by decide +kernel) rfl
theorem dk_522 : (Jvm.Cond.code ({ cls := "DriftNet", name := "hasRoom", desc := "(II)Z" } : Jvm.MethodName) prog_1_method_30_code (3 : Nat) (Option.some Jvm.ClassFile.FieldType.boolean)) ∈ jt_tb := jt_in 546 (by decide +kernel) rfl
theorem dk_523 : (Jvm.Cond.methodLink "DriftNet" (202 : Nat) ({ cls := "DriftNet$Packet", name := "goTo", desc := "(ILDriftNet$Entry;)V" } : Jvm.MethodName)) ∈ jt_tb := jt_in 547 (by decide +kernel) rfl
theorem dk_524 : (Jvm.Cond.instanceMethod ({ cls := "DriftNet$Packet", name := "goTo", desc := "(ILDriftNet$Entry;)V" } : Jvm.MethodName)) ∈ jt_tb := jt_in 548 (by decide +kernel) rfl
theorem dk_525 : (Jvm.Cond.selects "DriftNet$Packet" ({ cls := "DriftNet$Packet", name := "goTo", desc := "(ILDriftNet$Entry;)V" } : Jvm.MethodName) ({ cls := "DriftNet$Packet", name := "goTo", desc := "(ILDriftNet$Entry;)V" } : Jvm.MethodName)) ∈ jt_tb := jt_in 549 (by decide +kernel) rfl
theorem dk_526 : (Jvm.Cond.code ({ cls := "DriftNet$Packet", name := "goTo", desc := "(ILDriftNet$Entry;)V" } : Jvm.MethodName) prog_5_method_4_code (3 : Nat) (Option.none : Option Jvm.ClassFile.FieldType)) ∈ jt_tb := jt_in 550 (by decide +kernel) rfl
theorem dk_527 : (Jvm.Cond.methodLink "DriftNet" (212 : Nat) ({ cls := "DriftNet$Boat", name := "keepWord", desc := "(I)V" } : Jvm.MethodName)) ∈ jt_tb := jt_in 551 (by decide +kernel) rfl
theorem dk_528 : (Jvm.Cond.instanceMethod ({ cls := "DriftNet$Boat", name := "keepWord", desc := "(I)V" } : Jvm.MethodName)) ∈ jt_tb := jt_in 552 (by decide +kernel) rfl
theorem dk_529 : (Jvm.Cond.selects "DriftNet$Boat" ({ cls := "DriftNet$Boat", name := "keepWord", desc := "(I)V" } : Jvm.MethodName) ({ cls := "DriftNet$Boat", name := "keepWord", desc := "(I)V" } : Jvm.MethodName)) ∈ jt_tb := jt_in 553 (by decide +kernel) rfl
theorem dk_530 : (Jvm.Cond.code ({ cls := "DriftNet$Boat", name := "keepWord", desc := "(I)V" } : Jvm.MethodName) prog_2_method_5_code (2 : Nat) (Option.none : Option Jvm.ClassFile.FieldType)) ∈ jt_tb := jt_in 554 (by decide +kernel) rfl
theorem dk_531 : (Jvm.Cond.methodLink "DriftNetLaw" (123 : Nat) ({ cls := "DriftNetLaw", name := "waiting", desc := "(LDriftNet;I[J)I" } : Jvm.MethodName)) ∈ jt_tb := jt_in 555 (by decide +kernel) rfl
theorem dk_532 : (Jvm.Cond.static ({ cls := "DriftNetLaw", name := "waiting", desc := "(LDriftNet;I[J)I" } : Jvm.MethodName)) ∈ jt_tb := jt_in 556 (by decide +kernel) rfl
theorem dk_533 : (Jvm.Cond.codeWith ({ cls := "DriftNetLaw", name := "waiting", desc := "(LDriftNet;I[J)I" } : Jvm.MethodName) method_14_code (4 : Nat) (Option.some Jvm.ClassFile.FieldType.int) [((0 : Nat), (9 : Nat), (12 : Nat), (13 : Nat))]) ∈ jt_tb := jt_in 557 (by decide +kernel) rfl
theorem dk_534 : (Jvm.Cond.methodLink "DriftNetLaw" (56 : Nat) ({ cls := "DriftNet", name := "waiting", desc := "(I)I" } : Jvm.MethodName)) ∈ jt_tb := jt_in 558 (by decide +kernel) rfl
theorem dk_535 : (Jvm.Cond.instanceMethod ({ cls := "DriftNet", name := "waiting", desc := "(I)I" } : Jvm.MethodName)) ∈ jt_tb := jt_in 559 (by decide +kernel) rfl
theorem dk_536 : (Jvm.Cond.selects "DriftNet" ({ cls := "DriftNet", name := "waiting", desc := "(I)I" } : Jvm.MethodName) ({ cls := "DriftNet", name := "waiting", desc := "(I)I" } : Jvm.MethodName)) ∈ jt_tb := jt_in 560 (by decide +kernel) rfl
theorem dk_537 : (Jvm.Cond.code ({ cls := "DriftNet", name := "waiting", desc := "(I)I" } : Jvm.MethodName) prog_1_method_14_code (2 : Nat) (Option.some Jvm.ClassFile.FieldType.int)) ∈ jt_tb := jt_in 561 (by decide +kernel) rfl
theorem dk_538 : (Jvm.Cond.methodLink "DriftNetLaw" (126 : Nat) ({ cls := "DriftNetLaw", name := "got", desc := "(LDriftNet;II[J)I" } : Jvm.MethodName)) ∈ jt_tb := jt_in 562 (by decide +kernel) rfl
theorem dk_539 : (Jvm.Cond.static ({ cls := "DriftNetLaw", name := "got", desc := "(LDriftNet;II[J)I" } : Jvm.MethodName)) ∈ jt_tb := jt_in 563 (by decide +kernel) rfl
theorem dk_540 : (Jvm.Cond.codeWith ({ cls := "DriftNetLaw", name := "got", desc := "(LDriftNet;II[J)I" } : Jvm.MethodName) method_15_code (5 : Nat) (Option.some Jvm.ClassFile.FieldType.int) [((0 : Nat), (10 : Nat), (13 : Nat), (13 : Nat)), ((0 : Nat), (10 : Nat), (17 : Nat), (36 : Nat))]) ∈ jt_tb := jt_in 564 (by decide +kernel) rfl
theorem dk_541 : (Jvm.Cond.methodLink "DriftNetLaw" (59 : Nat) ({ cls := "DriftNet", name := "got", desc := "(II)I" } : Jvm.MethodName)) ∈ jt_tb := jt_in 565 (by decide +kernel) rfl
theorem dk_542 : (Jvm.Cond.instanceMethod ({ cls := "DriftNet", name := "got", desc := "(II)I" } : Jvm.MethodName)) ∈ jt_tb := jt_in 566 (by decide +kernel) rfl
theorem dk_543 : (Jvm.Cond.selects "DriftNet" ({ cls := "DriftNet", name := "got", desc := "(II)I" } : Jvm.MethodName) ({ cls := "DriftNet", name := "got", desc := "(II)I" } : Jvm.MethodName)) ∈ jt_tb := jt_in 567 (by decide +kernel) rfl
theorem dk_544 : (Jvm.Cond.code ({ cls := "DriftNet", name := "got", desc := "(II)I" } : Jvm.MethodName) prog_1_method_15_code (3 : Nat) (Option.some Jvm.ClassFile.FieldType.int)) ∈ jt_tb := jt_in 568 (by decide +kernel) rfl
theorem dk_545 : (Jvm.Cond.stringRef "DriftNet" (218 : Nat) "the boat has got no such word") ∈ jt_tb := jt_in 569 (by decide +kernel) rfl
theorem dk_546 : (Jvm.Cond.methodLink "DriftNetLaw" (129 : Nat) ({ cls := "DriftNetLaw", name := "circle", desc := "(LDriftNet;I[J)I" } : Jvm.MethodName)) ∈ jt_tb := jt_in 570 (by decide +kernel) rfl
theorem dk_547 : (Jvm.Cond.static ({ cls := "DriftNetLaw", name := "circle", desc := "(LDriftNet;I[J)I" } : Jvm.MethodName)) ∈ jt_tb := jt_in 571 (by decide +kernel) rfl
theorem dk_548 : (Jvm.Cond.codeWith ({ cls := "DriftNetLaw", name := "circle", desc := "(LDriftNet;I[J)I" } : Jvm.MethodName) method_16_code (4 : Nat) (Option.some Jvm.ClassFile.FieldType.int) [((0 : Nat), (9 : Nat), (12 : Nat), (13 : Nat))]) ∈ jt_tb := jt_in 572 (by decide +kernel) rfl
theorem dk_549 : (Jvm.Cond.methodLink "DriftNetLaw" (63 : Nat) ({ cls := "DriftNet", name := "circle", desc := "(I)I" } : Jvm.MethodName)) ∈ jt_tb := jt_in 573 (by decide +kernel) rfl
theorem dk_550 : (Jvm.Cond.instanceMethod ({ cls := "DriftNet", name := "circle", desc := "(I)I" } : Jvm.MethodName)) ∈ jt_tb := jt_in 574 (by decide +kernel) rfl
theorem dk_551 : (Jvm.Cond.selects "DriftNet" ({ cls := "DriftNet", name := "circle", desc := "(I)I" } : Jvm.MethodName) ({ cls := "DriftNet", name := "circle", desc := "(I)I" } : Jvm.MethodName)) ∈ jt_tb := jt_in 575 (by decide +kernel) rfl
theorem dk_552 : (Jvm.Cond.code ({ cls := "DriftNet", name := "circle", desc := "(I)I" } : Jvm.MethodName) prog_1_method_16_code (4 : Nat) (Option.some Jvm.ClassFile.FieldType.int)) ∈ jt_tb := jt_in 576 (by decide +kernel) rfl
theorem dk_553 : (Jvm.Cond.methodLink "DriftNet" (223 : Nat) ({ cls := "DriftNet", name := "circleFrom", desc := "(II)I" } : Jvm.MethodName)) ∈ jt_tb := jt_in 577 (by decide +kernel) rfl
theorem dk_555 : (Jvm.Cond.instanceMethod ({ cls := "DriftNet", name := "circleFrom", desc := "(II)I" } : Jvm.MethodName)) ∈ jt_tb := jt_in 579 (by decide +kernel) rfl
theorem dk_556 : (Jvm.Cond.code ({ cls := "DriftNet", name := "circleFrom", desc := "(II)I" } : Jvm.MethodName) prog_1_method_31_code (5 : Nat) (Option.some Jvm.ClassFile.FieldType.int)) ∈ jt_tb := jt_in 580 (by decide +kernel) rfl
theorem dk_557 : (Jvm.Cond.methodLink "DriftNetLaw" (132 : Nat) ({ cls := "DriftNetLaw", name := "best", desc := "(LDriftNet;II[J)I" } : Jvm.MethodName)) ∈ jt_tb := jt_in 581 (by decide +kernel) rfl
theorem dk_558 : (Jvm.Cond.static ({ cls := "DriftNetLaw", name := "best", desc := "(LDriftNet;II[J)I" } : Jvm.MethodName)) ∈ jt_tb := jt_in 582 (by decide +kernel) rfl
theorem dk_559 : (Jvm.Cond.codeWith ({ cls := "DriftNetLaw", name := "best", desc := "(LDriftNet;II[J)I" } : Jvm.MethodName) method_17_code (5 : Nat) (Option.some Jvm.ClassFile.FieldType.int) [((0 : Nat), (10 : Nat), (13 : Nat), (13 : Nat))]) ∈ jt_tb := jt_in 583 (by decide +kernel) rfl
theorem dk_560 : (Jvm.Cond.methodLink "DriftNetLaw" (66 : Nat) ({ cls := "DriftNet", name := "best", desc := "(II)I" } : Jvm.MethodName)) ∈ jt_tb := jt_in 584 (by decide +kernel) rfl
theorem dk_561 : (Jvm.Cond.instanceMethod ({ cls := "DriftNet", name := "best", desc := "(II)I" } : Jvm.MethodName)) ∈ jt_tb := jt_in 585 (by decide +kernel) rfl
theorem dk_562 : (Jvm.Cond.selects "DriftNet" ({ cls := "DriftNet", name := "best", desc := "(II)I" } : Jvm.MethodName) ({ cls := "DriftNet", name := "best", desc := "(II)I" } : Jvm.MethodName)) ∈ jt_tb := jt_in 586 (by decide +kernel) rfl
theorem dk_563 : (Jvm.Cond.code ({ cls := "DriftNet", name := "best", desc := "(II)I" } : Jvm.MethodName) prog_1_method_17_code (5 : Nat) (Option.some Jvm.ClassFile.FieldType.int)) ∈ jt_tb := jt_in 587 (by decide +kernel) rfl
theorem dk_564 : (Jvm.Cond.methodLink "DriftNet" (227 : Nat) ({ cls := "DriftNet", name := "oneLinkFurther", desc := "(I)I" } : Jvm.MethodName)) ∈ jt_tb := jt_in 588 (by decide +kernel) rfl
theorem dk_566 : (Jvm.Cond.instanceMethod ({ cls := "DriftNet", name := "oneLinkFurther", desc := "(I)I" } : Jvm.MethodName)) ∈ jt_tb := jt_in 590 (by decide +kernel) rfl
theorem dk_567 : (Jvm.Cond.code ({ cls := "DriftNet", name := "oneLinkFurther", desc := "(I)I" } : Jvm.MethodName) prog_1_method_32_code (4 : Nat) (Option.some Jvm.ClassFile.FieldType.int)) ∈ jt_tb := jt_in 591 (by decide +kernel) rfl
theorem dk_568 : (Jvm.Cond.classLink "DriftNetLaw" (70 : Nat) "DriftNetModel") ∈ jt_tb := jt_in 592 (by decide +kernel) rfl
theorem dk_569 : (Jvm.Cond.instantiable "DriftNetModel" (30 : Nat)) ∈ jt_tb := jt_in 593 (by decide +kernel) rfl
theorem dk_570 : (Jvm.Cond.methodLink "DriftNetLaw" (72 : Nat) ({ cls := "DriftNetModel", name := "<init>", desc := "()V" } : Jvm.MethodName)) ∈ jt_tb := jt_in 594 (by decide +kernel) rfl
theorem dk_571 : (Jvm.Cond.instanceMethod ({ cls := "DriftNetModel", name := "<init>", desc := "()V" } : Jvm.MethodName)) ∈ jt_tb := jt_in 595 (by decide +kernel) rfl
theorem dk_572 : (Jvm.Cond.code ({ cls := "DriftNetModel", name := "<init>", desc := "()V" } : Jvm.MethodName) prog_7_method_1_code (3 : Nat) (Option.none : Option Jvm.ClassFile.FieldType)) ∈ jt_tb := jt_in 596 (by decide +kernel) rfl
theorem dk_573 : (Jvm.Cond.methodLink "DriftNetModel" (1 : Nat) ({ cls := "java/lang/Object", name := "<init>", desc := "()V" } : Jvm.MethodName)) ∈ jt_tb := jt_in 597 (by decide +kernel) rfl
theorem dk_574 : (Jvm.Cond.fieldLink "DriftNetModel" (89 : Nat) "DriftNetModel" "code" "I") ∈ jt_tb := jt_in 598 (by decide +kernel) rfl
theorem dk_575 : (Jvm.Cond.fieldLink "DriftNetModel" (115 : Nat) "DriftNetModel" "clock" "I") ∈ jt_tb := jt_in 599 (by decide +kernel) rfl
theorem dk_576 : (Jvm.Cond.fieldLink "DriftNetModel" (7 : Nat) "DriftNetModel" "isOn" "[Z") ∈ jt_tb := jt_in 600 (by decide +kernel) rfl
theorem dk_577 : (Jvm.Cond.fieldLink "DriftNetModel" (13 : Nat) "DriftNetModel" "linked" "[Z") ∈ jt_tb := jt_in 601 (by decide +kernel) rfl
theorem dk_578 : (Jvm.Cond.fieldLink "DriftNetModel" (16 : Nat) "DriftNetModel" "heard" "[I") ∈ jt_tb := jt_in 602 (by decide +kernel) rfl
theorem dk_579 : (Jvm.Cond.fieldLink "DriftNetModel" (20 : Nat) "DriftNetModel" "number" "[I") ∈ jt_tb := jt_in 603 (by decide +kernel) rfl
theorem dk_580 : (Jvm.Cond.fieldLink "DriftNetModel" (23 : Nat) "DriftNetModel" "metric" "[I") ∈ jt_tb := jt_in 604 (by decide +kernel) rfl
theorem dk_581 : (Jvm.Cond.fieldLink "DriftNetModel" (26 : Nat) "DriftNetModel" "next" "[I") ∈ jt_tb := jt_in 605 (by decide +kernel) rfl
theorem dk_582 : (Jvm.Cond.fieldLink "DriftNetModel" (29 : Nat) "DriftNetModel" "shownNumber" "[I") ∈ jt_tb := jt_in 606 (by decide +kernel) rfl
theorem dk_583 : (Jvm.Cond.fieldLink "DriftNetModel" (32 : Nat) "DriftNetModel" "shownMetric" "[I") ∈ jt_tb := jt_in 607 (by decide +kernel) rfl
theorem dk_584 : (Jvm.Cond.fieldLink "DriftNetModel" (35 : Nat) "DriftNetModel" "changed" "[Z") ∈ jt_tb := jt_in 608 (by decide +kernel) rfl
theorem dk_585 : (Jvm.Cond.fieldLink "DriftNetModel" (38 : Nat) "DriftNetModel" "waits" "[Z") ∈ jt_tb := jt_in 609 (by decide +kernel) rfl
theorem dk_586 : (Jvm.Cond.fieldLink "DriftNetModel" (41 : Nat) "DriftNetModel" "first" "[I") ∈ jt_tb := jt_in 610 (by decide +kernel) rfl
theorem dk_587 : (Jvm.Cond.fieldLink "DriftNetModel" (44 : Nat) "DriftNetModel" "mean" "[I") ∈ jt_tb := jt_in 611 (by decide +kernel) rfl
theorem dk_588 : (Jvm.Cond.fieldLink "DriftNetModel" (101 : Nat) "DriftNetModel" "casts" "I") ∈ jt_tb := jt_in 612 (by decide +kernel) rfl
theorem dk_589 : (Jvm.Cond.fieldLink "DriftNetModel" (47 : Nat) "DriftNetModel" "sender" "[I") ∈ jt_tb := jt_in 613 (by decide +kernel) rfl
theorem dk_590 : (Jvm.Cond.fieldLink "DriftNetModel" (50 : Nat) "DriftNetModel" "counts" "[I") ∈ jt_tb := jt_in 614 (by decide +kernel) rfl
theorem dk_591 : (Jvm.Cond.fieldLink "DriftNetModel" (53 : Nat) "DriftNetModel" "goals" "[I") ∈ jt_tb := jt_in 615 (by decide +kernel) rfl
theorem dk_592 : (Jvm.Cond.fieldLink "DriftNetModel" (56 : Nat) "DriftNetModel" "numbers" "[I") ∈ jt_tb := jt_in 616 (by decide +kernel) rfl
theorem dk_593 : (Jvm.Cond.fieldLink "DriftNetModel" (59 : Nat) "DriftNetModel" "metrics" "[I") ∈ jt_tb := jt_in 617 (by decide +kernel) rfl
theorem dk_594 : (Jvm.Cond.fieldLink "DriftNetModel" (129 : Nat) "DriftNetModel" "sent" "I") ∈ jt_tb := jt_in 618 (by decide +kernel) rfl
theorem dk_595 : (Jvm.Cond.fieldLink "DriftNetModel" (62 : Nat) "DriftNetModel" "packet" "[I") ∈ jt_tb := jt_in 619 (by decide +kernel) rfl
theorem dk_596 : (Jvm.Cond.fieldLink "DriftNetModel" (65 : Nat) "DriftNetModel" "at" "[I") ∈ jt_tb := jt_in 620 (by decide +kernel) rfl
theorem dk_597 : (Jvm.Cond.fieldLink "DriftNetModel" (68 : Nat) "DriftNetModel" "goalOf" "[I") ∈ jt_tb := jt_in 621 (by decide +kernel) rfl
theorem dk_598 : (Jvm.Cond.fieldLink "DriftNetModel" (71 : Nat) "DriftNetModel" "word" "[I") ∈ jt_tb := jt_in 622 (by decide +kernel) rfl
theorem dk_599 : (Jvm.Cond.fieldLink "DriftNetModel" (74 : Nat) "DriftNetModel" "boundNumber" "[I") ∈ jt_tb := jt_in 623 (by decide +kernel) rfl
theorem dk_600 : (Jvm.Cond.fieldLink "DriftNetModel" (77 : Nat) "DriftNetModel" "boundMetric" "[I") ∈ jt_tb := jt_in 624 (by decide +kernel) rfl
theorem dk_601 : (Jvm.Cond.fieldLink "DriftNetModel" (80 : Nat) "DriftNetModel" "gotCount" "[I") ∈ jt_tb := jt_in 625 (by decide +kernel) rfl
theorem dk_602 : (Jvm.Cond.fieldLink "DriftNetModel" (83 : Nat) "DriftNetModel" "words" "[I") ∈ jt_tb := jt_in 626 (by decide +kernel) rfl
theorem dk_603 : (Jvm.Cond.fieldLink "DriftNetModel" (86 : Nat) "DriftNetModel" "far" "[I") ∈ jt_tb := jt_in 627 (by decide +kernel) rfl
theorem dk_665 : (Jvm.Cond.arrayClass Jvm.ClassFile.FieldType.boolean) ∈ jt_tb := jt_in 689 (by decide +kernel) rfl
theorem dk_666 : (Jvm.Cond.methodLink "DriftNetLaw" (79 : Nat) ({ cls := "DriftNetModel", name := "thrown", desc := "()I" } : Jvm.MethodName)) ∈ jt_tb := jt_in 690 (by decide +kernel) rfl
theorem dk_667 : (Jvm.Cond.instanceMethod ({ cls := "DriftNetModel", name := "thrown", desc := "()I" } : Jvm.MethodName)) ∈ jt_tb := jt_in 691 (by decide +kernel) rfl
theorem dk_668 : (Jvm.Cond.selects "DriftNetModel" ({ cls := "DriftNetModel", name := "thrown", desc := "()I" } : Jvm.MethodName) ({ cls := "DriftNetModel", name := "thrown", desc := "()I" } : Jvm.MethodName)) ∈ jt_tb := jt_in 692 (by decide +kernel) rfl
theorem dk_669 : (Jvm.Cond.code ({ cls := "DriftNetModel", name := "thrown", desc := "()I" } : Jvm.MethodName) prog_7_method_2_code (1 : Nat) (Option.some Jvm.ClassFile.FieldType.int)) ∈ jt_tb := jt_in 693 (by decide +kernel) rfl
theorem dk_670 : (Jvm.Cond.methodLink "DriftNetLaw" (78 : Nat) ({ cls := "DriftNetModel", name := "on", desc := "(I)Z" } : Jvm.MethodName)) ∈ jt_tb := jt_in 694 (by decide +kernel) rfl
theorem dk_671 : (Jvm.Cond.instanceMethod ({ cls := "DriftNetModel", name := "on", desc := "(I)Z" } : Jvm.MethodName)) ∈ jt_tb := jt_in 695 (by decide +kernel) rfl
theorem dk_672 : (Jvm.Cond.selects "DriftNetModel" ({ cls := "DriftNetModel", name := "on", desc := "(I)Z" } : Jvm.MethodName) ({ cls := "DriftNetModel", name := "on", desc := "(I)Z" } : Jvm.MethodName)) ∈ jt_tb := jt_in 696 (by decide +kernel) rfl
theorem dk_673 : (Jvm.Cond.code ({ cls := "DriftNetModel", name := "on", desc := "(I)Z" } : Jvm.MethodName) prog_7_method_4_code (3 : Nat) (Option.some Jvm.ClassFile.FieldType.boolean)) ∈ jt_tb := jt_in 697 (by decide +kernel) rfl
theorem dk_674 : (Jvm.Cond.methodLink "DriftNetModel" (93 : Nat) ({ cls := "DriftNetModel", name := "isBoat", desc := "(I)Z" } : Jvm.MethodName)) ∈ jt_tb := jt_in 698 (by decide +kernel) rfl
theorem dk_675 : (Jvm.Cond.static ({ cls := "DriftNetModel", name := "isBoat", desc := "(I)Z" } : Jvm.MethodName)) ∈ jt_tb := jt_in 699 (by decide +kernel) rfl
theorem dk_676 : (Jvm.Cond.code ({ cls := "DriftNetModel", name := "isBoat", desc := "(I)Z" } : Jvm.MethodName) prog_7_method_3_code (1 : Nat) (Option.some Jvm.ClassFile.FieldType.boolean)) ∈ jt_tb := jt_in 700 (by decide +kernel) rfl
theorem dk_677 : (Jvm.Cond.methodLink "DriftNetLaw" (85 : Nat) ({ cls := "DriftNetModel", name := "off", desc := "(I)Z" } : Jvm.MethodName)) ∈ jt_tb := jt_in 701 (by decide +kernel) rfl
theorem dk_678 : (Jvm.Cond.instanceMethod ({ cls := "DriftNetModel", name := "off", desc := "(I)Z" } : Jvm.MethodName)) ∈ jt_tb := jt_in 702 (by decide +kernel) rfl
theorem dk_679 : (Jvm.Cond.selects "DriftNetModel" ({ cls := "DriftNetModel", name := "off", desc := "(I)Z" } : Jvm.MethodName) ({ cls := "DriftNetModel", name := "off", desc := "(I)Z" } : Jvm.MethodName)) ∈ jt_tb := jt_in 703 (by decide +kernel) rfl
theorem dk_680 : (Jvm.Cond.code ({ cls := "DriftNetModel", name := "off", desc := "(I)Z" } : Jvm.MethodName) prog_7_method_5_code (3 : Nat) (Option.some Jvm.ClassFile.FieldType.boolean)) ∈ jt_tb := jt_in 704 (by decide +kernel) rfl
theorem dk_681 : (Jvm.Cond.methodLink "DriftNetLaw" (89 : Nat) ({ cls := "DriftNetModel", name := "link", desc := "(IIZ)Z" } : Jvm.MethodName)) ∈ jt_tb := jt_in 705 (by decide +kernel) rfl
theorem dk_682 : (Jvm.Cond.instanceMethod ({ cls := "DriftNetModel", name := "link", desc := "(IIZ)Z" } : Jvm.MethodName)) ∈ jt_tb := jt_in 706 (by decide +kernel) rfl
theorem dk_683 : (Jvm.Cond.selects "DriftNetModel" ({ cls := "DriftNetModel", name := "link", desc := "(IIZ)Z" } : Jvm.MethodName) ({ cls := "DriftNetModel", name := "link", desc := "(IIZ)Z" } : Jvm.MethodName)) ∈ jt_tb := jt_in 707 (by decide +kernel) rfl
theorem dk_684 : (Jvm.Cond.code ({ cls := "DriftNetModel", name := "link", desc := "(IIZ)Z" } : Jvm.MethodName) prog_7_method_6_code (5 : Nat) (Option.some Jvm.ClassFile.FieldType.boolean)) ∈ jt_tb := jt_in 708 (by decide +kernel) rfl
theorem dk_685 : (Jvm.Cond.methodLink "DriftNetLaw" (93 : Nat) ({ cls := "DriftNetModel", name := "cast", desc := "(IZ)I" } : Jvm.MethodName)) ∈ jt_tb := jt_in 709 (by decide +kernel) rfl
theorem dk_686 : (Jvm.Cond.instanceMethod ({ cls := "DriftNetModel", name := "cast", desc := "(IZ)I" } : Jvm.MethodName)) ∈ jt_tb := jt_in 710 (by decide +kernel) rfl
theorem dk_687 : (Jvm.Cond.selects "DriftNetModel" ({ cls := "DriftNetModel", name := "cast", desc := "(IZ)I" } : Jvm.MethodName) ({ cls := "DriftNetModel", name := "cast", desc := "(IZ)I" } : Jvm.MethodName)) ∈ jt_tb := jt_in 711 (by decide +kernel) rfl
theorem dk_688 : (Jvm.Cond.code ({ cls := "DriftNetModel", name := "cast", desc := "(IZ)I" } : Jvm.MethodName) prog_7_method_8_code (6 : Nat) (Option.some Jvm.ClassFile.FieldType.int)) ∈ jt_tb := jt_in 712 (by decide +kernel) rfl
theorem dk_689 : (Jvm.Cond.methodLink "DriftNetModel" (97 : Nat) ({ cls := "DriftNetModel", name := "show", desc := "(I)V" } : Jvm.MethodName)) ∈ jt_tb := jt_in 713 (by decide +kernel) rfl
theorem dk_691 : (Jvm.Cond.instanceMethod ({ cls := "DriftNetModel", name := "show", desc := "(I)V" } : Jvm.MethodName)) ∈ jt_tb := jt_in 715 (by decide +kernel) rfl
theorem dk_692 : (Jvm.Cond.code ({ cls := "DriftNetModel", name := "show", desc := "(I)V" } : Jvm.MethodName) prog_7_method_7_code (2 : Nat) (Option.none : Option Jvm.ClassFile.FieldType)) ∈ jt_tb := jt_in 716 (by decide +kernel) rfl
theorem dk_693 : (Jvm.Cond.methodLink "DriftNetLaw" (96 : Nat) ({ cls := "DriftNetModel", name := "parts", desc := "(I)I" } : Jvm.MethodName)) ∈ jt_tb := jt_in 717 (by decide +kernel) rfl
theorem dk_694 : (Jvm.Cond.instanceMethod ({ cls := "DriftNetModel", name := "parts", desc := "(I)I" } : Jvm.MethodName)) ∈ jt_tb := jt_in 718 (by decide +kernel) rfl
theorem dk_695 : (Jvm.Cond.selects "DriftNetModel" ({ cls := "DriftNetModel", name := "parts", desc := "(I)I" } : Jvm.MethodName) ({ cls := "DriftNetModel", name := "parts", desc := "(I)I" } : Jvm.MethodName)) ∈ jt_tb := jt_in 719 (by decide +kernel) rfl
theorem dk_696 : (Jvm.Cond.code ({ cls := "DriftNetModel", name := "parts", desc := "(I)I" } : Jvm.MethodName) prog_7_method_12_code (2 : Nat) (Option.some Jvm.ClassFile.FieldType.int)) ∈ jt_tb := jt_in 720 (by decide +kernel) rfl
theorem dk_697 : (Jvm.Cond.methodLink "DriftNetModel" (104 : Nat) ({ cls := "DriftNetModel", name := "isCast", desc := "(I)Z" } : Jvm.MethodName)) ∈ jt_tb := jt_in 721 (by decide +kernel) rfl
theorem dk_699 : (Jvm.Cond.instanceMethod ({ cls := "DriftNetModel", name := "isCast", desc := "(I)Z" } : Jvm.MethodName)) ∈ jt_tb := jt_in 723 (by decide +kernel) rfl
theorem dk_700 : (Jvm.Cond.code ({ cls := "DriftNetModel", name := "isCast", desc := "(I)Z" } : Jvm.MethodName) prog_7_method_9_code (2 : Nat) (Option.some Jvm.ClassFile.FieldType.boolean)) ∈ jt_tb := jt_in 724 (by decide +kernel) rfl
theorem dk_701 : (Jvm.Cond.methodLink "DriftNetModel" (107 : Nat) ({ cls := "DriftNetModel", name := "partsOf", desc := "(I)I" } : Jvm.MethodName)) ∈ jt_tb := jt_in 725 (by decide +kernel) rfl
theorem dk_703 : (Jvm.Cond.instanceMethod ({ cls := "DriftNetModel", name := "partsOf", desc := "(I)I" } : Jvm.MethodName)) ∈ jt_tb := jt_in 727 (by decide +kernel) rfl
theorem dk_704 : (Jvm.Cond.code ({ cls := "DriftNetModel", name := "partsOf", desc := "(I)I" } : Jvm.MethodName) prog_7_method_10_code (3 : Nat) (Option.some Jvm.ClassFile.FieldType.int)) ∈ jt_tb := jt_in 728 (by decide +kernel) rfl
theorem dk_705 : (Jvm.Cond.methodLink "DriftNetLaw" (100 : Nat) ({ cls := "DriftNetModel", name := "entry", desc := "(IIII)I" } : Jvm.MethodName)) ∈ jt_tb := jt_in 729 (by decide +kernel) rfl
theorem dk_706 : (Jvm.Cond.instanceMethod ({ cls := "DriftNetModel", name := "entry", desc := "(IIII)I" } : Jvm.MethodName)) ∈ jt_tb := jt_in 730 (by decide +kernel) rfl
theorem dk_707 : (Jvm.Cond.selects "DriftNetModel" ({ cls := "DriftNetModel", name := "entry", desc := "(IIII)I" } : Jvm.MethodName) ({ cls := "DriftNetModel", name := "entry", desc := "(IIII)I" } : Jvm.MethodName)) ∈ jt_tb := jt_in 731 (by decide +kernel) rfl
theorem dk_708 : (Jvm.Cond.code ({ cls := "DriftNetModel", name := "entry", desc := "(IIII)I" } : Jvm.MethodName) prog_7_method_13_code (6 : Nat) (Option.some Jvm.ClassFile.FieldType.int)) ∈ jt_tb := jt_in 732 (by decide +kernel) rfl
theorem dk_709 : (Jvm.Cond.methodLink "DriftNetModel" (111 : Nat) ({ cls := "DriftNetModel", name := "isPart", desc := "(II)Z" } : Jvm.MethodName)) ∈ jt_tb := jt_in 733 (by decide +kernel) rfl
theorem dk_711 : (Jvm.Cond.instanceMethod ({ cls := "DriftNetModel", name := "isPart", desc := "(II)Z" } : Jvm.MethodName)) ∈ jt_tb := jt_in 735 (by decide +kernel) rfl
theorem dk_712 : (Jvm.Cond.code ({ cls := "DriftNetModel", name := "isPart", desc := "(II)Z" } : Jvm.MethodName) prog_7_method_11_code (3 : Nat) (Option.some Jvm.ClassFile.FieldType.boolean)) ∈ jt_tb := jt_in 736 (by decide +kernel) rfl
theorem dk_713 : (Jvm.Cond.methodLink "DriftNetLaw" (104 : Nat) ({ cls := "DriftNetModel", name := "hear", desc := "(IIIZ)I" } : Jvm.MethodName)) ∈ jt_tb := jt_in 737 (by decide +kernel) rfl
theorem dk_714 : (Jvm.Cond.instanceMethod ({ cls := "DriftNetModel", name := "hear", desc := "(IIIZ)I" } : Jvm.MethodName)) ∈ jt_tb := jt_in 738 (by decide +kernel) rfl
theorem dk_715 : (Jvm.Cond.selects "DriftNetModel" ({ cls := "DriftNetModel", name := "hear", desc := "(IIIZ)I" } : Jvm.MethodName) ({ cls := "DriftNetModel", name := "hear", desc := "(IIIZ)I" } : Jvm.MethodName)) ∈ jt_tb := jt_in 739 (by decide +kernel) rfl
theorem dk_716 : (Jvm.Cond.code ({ cls := "DriftNetModel", name := "hear", desc := "(IIIZ)I" } : Jvm.MethodName) prog_7_method_15_code (10 : Nat) (Option.some Jvm.ClassFile.FieldType.int)) ∈ jt_tb := jt_in 740 (by decide +kernel) rfl
theorem dk_717 : (Jvm.Cond.methodLink "DriftNetModel" (118 : Nat) ({ cls := "DriftNetModel", name := "take", desc := "(IIIII)Z" } : Jvm.MethodName)) ∈ jt_tb := jt_in 741 (by decide +kernel) rfl
theorem dk_719 : (Jvm.Cond.instanceMethod ({ cls := "DriftNetModel", name := "take", desc := "(IIIII)Z" } : Jvm.MethodName)) ∈ jt_tb := jt_in 743 (by decide +kernel) rfl
theorem dk_720 : (Jvm.Cond.code ({ cls := "DriftNetModel", name := "take", desc := "(IIIII)Z" } : Jvm.MethodName) prog_7_method_14_code (10 : Nat) (Option.some Jvm.ClassFile.FieldType.boolean)) ∈ jt_tb := jt_in 744 (by decide +kernel) rfl
theorem dk_721 : (Jvm.Cond.methodLink "DriftNetLaw" (108 : Nat) ({ cls := "DriftNetModel", name := "tick", desc := "()I" } : Jvm.MethodName)) ∈ jt_tb := jt_in 745 (by decide +kernel) rfl
theorem dk_722 : (Jvm.Cond.instanceMethod ({ cls := "DriftNetModel", name := "tick", desc := "()I" } : Jvm.MethodName)) ∈ jt_tb := jt_in 746 (by decide +kernel) rfl
theorem dk_723 : (Jvm.Cond.selects "DriftNetModel" ({ cls := "DriftNetModel", name := "tick", desc := "()I" } : Jvm.MethodName) ({ cls := "DriftNetModel", name := "tick", desc := "()I" } : Jvm.MethodName)) ∈ jt_tb := jt_in 747 (by decide +kernel) rfl
theorem dk_724 : (Jvm.Cond.code ({ cls := "DriftNetModel", name := "tick", desc := "()I" } : Jvm.MethodName) prog_7_method_17_code (3 : Nat) (Option.some Jvm.ClassFile.FieldType.int)) ∈ jt_tb := jt_in 748 (by decide +kernel) rfl
theorem dk_725 : (Jvm.Cond.methodLink "DriftNetModel" (122 : Nat) ({ cls := "DriftNetModel", name := "lose", desc := "(II)V" } : Jvm.MethodName)) ∈ jt_tb := jt_in 749 (by decide +kernel) rfl
theorem dk_727 : (Jvm.Cond.instanceMethod ({ cls := "DriftNetModel", name := "lose", desc := "(II)V" } : Jvm.MethodName)) ∈ jt_tb := jt_in 751 (by decide +kernel) rfl
theorem dk_728 : (Jvm.Cond.code ({ cls := "DriftNetModel", name := "lose", desc := "(II)V" } : Jvm.MethodName) prog_7_method_16_code (5 : Nat) (Option.none : Option Jvm.ClassFile.FieldType)) ∈ jt_tb := jt_in 752 (by decide +kernel) rfl
theorem dk_729 : (Jvm.Cond.methodLink "DriftNetLaw" (112 : Nat) ({ cls := "DriftNetModel", name := "route", desc := "(III)I" } : Jvm.MethodName)) ∈ jt_tb := jt_in 753 (by decide +kernel) rfl
theorem dk_730 : (Jvm.Cond.instanceMethod ({ cls := "DriftNetModel", name := "route", desc := "(III)I" } : Jvm.MethodName)) ∈ jt_tb := jt_in 754 (by decide +kernel) rfl
theorem dk_731 : (Jvm.Cond.selects "DriftNetModel" ({ cls := "DriftNetModel", name := "route", desc := "(III)I" } : Jvm.MethodName) ({ cls := "DriftNetModel", name := "route", desc := "(III)I" } : Jvm.MethodName)) ∈ jt_tb := jt_in 755 (by decide +kernel) rfl
theorem dk_732 : (Jvm.Cond.code ({ cls := "DriftNetModel", name := "route", desc := "(III)I" } : Jvm.MethodName) prog_7_method_18_code (5 : Nat) (Option.some Jvm.ClassFile.FieldType.int)) ∈ jt_tb := jt_in 756 (by decide +kernel) rfl
theorem dk_733 : (Jvm.Cond.methodLink "DriftNetLaw" (116 : Nat) ({ cls := "DriftNetModel", name := "two", desc := "(II)Z" } : Jvm.MethodName)) ∈ jt_tb := jt_in 757 (by decide +kernel) rfl
theorem dk_734 : (Jvm.Cond.instanceMethod ({ cls := "DriftNetModel", name := "two", desc := "(II)Z" } : Jvm.MethodName)) ∈ jt_tb := jt_in 758 (by decide +kernel) rfl
theorem dk_735 : (Jvm.Cond.selects "DriftNetModel" ({ cls := "DriftNetModel", name := "two", desc := "(II)Z" } : Jvm.MethodName) ({ cls := "DriftNetModel", name := "two", desc := "(II)Z" } : Jvm.MethodName)) ∈ jt_tb := jt_in 759 (by decide +kernel) rfl
theorem dk_736 : (Jvm.Cond.code ({ cls := "DriftNetModel", name := "two", desc := "(II)Z" } : Jvm.MethodName) prog_7_method_19_code (3 : Nat) (Option.some Jvm.ClassFile.FieldType.boolean)) ∈ jt_tb := jt_in 760 (by decide +kernel) rfl
theorem dk_737 : (Jvm.Cond.methodLink "DriftNetLaw" (119 : Nat) ({ cls := "DriftNetModel", name := "send", desc := "(III)I" } : Jvm.MethodName)) ∈ jt_tb := jt_in 761 (by decide +kernel) rfl
theorem dk_738 : (Jvm.Cond.instanceMethod ({ cls := "DriftNetModel", name := "send", desc := "(III)I" } : Jvm.MethodName)) ∈ jt_tb := jt_in 762 (by decide +kernel) rfl
theorem dk_739 : (Jvm.Cond.selects "DriftNetModel" ({ cls := "DriftNetModel", name := "send", desc := "(III)I" } : Jvm.MethodName) ({ cls := "DriftNetModel", name := "send", desc := "(III)I" } : Jvm.MethodName)) ∈ jt_tb := jt_in 763 (by decide +kernel) rfl
theorem dk_740 : (Jvm.Cond.code ({ cls := "DriftNetModel", name := "send", desc := "(III)I" } : Jvm.MethodName) prog_7_method_21_code (5 : Nat) (Option.some Jvm.ClassFile.FieldType.int)) ∈ jt_tb := jt_in 764 (by decide +kernel) rfl
theorem dk_741 : (Jvm.Cond.methodLink "DriftNetModel" (126 : Nat) ({ cls := "DriftNetModel", name := "packets", desc := "(I)I" } : Jvm.MethodName)) ∈ jt_tb := jt_in 765 (by decide +kernel) rfl
theorem dk_743 : (Jvm.Cond.instanceMethod ({ cls := "DriftNetModel", name := "packets", desc := "(I)I" } : Jvm.MethodName)) ∈ jt_tb := jt_in 767 (by decide +kernel) rfl
theorem dk_744 : (Jvm.Cond.code ({ cls := "DriftNetModel", name := "packets", desc := "(I)I" } : Jvm.MethodName) prog_7_method_20_code (4 : Nat) (Option.some Jvm.ClassFile.FieldType.int)) ∈ jt_tb := jt_in 768 (by decide +kernel) rfl
theorem dk_745 : (Jvm.Cond.methodLink "DriftNetLaw" (122 : Nat) ({ cls := "DriftNetModel", name := "move", desc := "(I)I" } : Jvm.MethodName)) ∈ jt_tb := jt_in 769 (by decide +kernel) rfl
theorem dk_746 : (Jvm.Cond.instanceMethod ({ cls := "DriftNetModel", name := "move", desc := "(I)I" } : Jvm.MethodName)) ∈ jt_tb := jt_in 770 (by decide +kernel) rfl
theorem dk_747 : (Jvm.Cond.selects "DriftNetModel" ({ cls := "DriftNetModel", name := "move", desc := "(I)I" } : Jvm.MethodName) ({ cls := "DriftNetModel", name := "move", desc := "(I)I" } : Jvm.MethodName)) ∈ jt_tb := jt_in 771 (by decide +kernel) rfl
theorem dk_748 : (Jvm.Cond.code ({ cls := "DriftNetModel", name := "move", desc := "(I)I" } : Jvm.MethodName) prog_7_method_23_code (5 : Nat) (Option.some Jvm.ClassFile.FieldType.int)) ∈ jt_tb := jt_in 772 (by decide +kernel) rfl
theorem dk_749 : (Jvm.Cond.methodLink "DriftNetModel" (132 : Nat) ({ cls := "DriftNetModel", name := "goes", desc := "(III)Z" } : Jvm.MethodName)) ∈ jt_tb := jt_in 773 (by decide +kernel) rfl
theorem dk_751 : (Jvm.Cond.instanceMethod ({ cls := "DriftNetModel", name := "goes", desc := "(III)Z" } : Jvm.MethodName)) ∈ jt_tb := jt_in 775 (by decide +kernel) rfl
theorem dk_752 : (Jvm.Cond.code ({ cls := "DriftNetModel", name := "goes", desc := "(III)Z" } : Jvm.MethodName) prog_7_method_22_code (7 : Nat) (Option.some Jvm.ClassFile.FieldType.boolean)) ∈ jt_tb := jt_in 776 (by decide +kernel) rfl
theorem dk_753 : (Jvm.Cond.methodLink "DriftNetLaw" (125 : Nat) ({ cls := "DriftNetModel", name := "waiting", desc := "(I)I" } : Jvm.MethodName)) ∈ jt_tb := jt_in 777 (by decide +kernel) rfl
theorem dk_754 : (Jvm.Cond.instanceMethod ({ cls := "DriftNetModel", name := "waiting", desc := "(I)I" } : Jvm.MethodName)) ∈ jt_tb := jt_in 778 (by decide +kernel) rfl
theorem dk_755 : (Jvm.Cond.selects "DriftNetModel" ({ cls := "DriftNetModel", name := "waiting", desc := "(I)I" } : Jvm.MethodName) ({ cls := "DriftNetModel", name := "waiting", desc := "(I)I" } : Jvm.MethodName)) ∈ jt_tb := jt_in 779 (by decide +kernel) rfl
theorem dk_756 : (Jvm.Cond.code ({ cls := "DriftNetModel", name := "waiting", desc := "(I)I" } : Jvm.MethodName) prog_7_method_24_code (2 : Nat) (Option.some Jvm.ClassFile.FieldType.int)) ∈ jt_tb := jt_in 780 (by decide +kernel) rfl
theorem dk_757 : (Jvm.Cond.methodLink "DriftNetLaw" (128 : Nat) ({ cls := "DriftNetModel", name := "got", desc := "(II)I" } : Jvm.MethodName)) ∈ jt_tb := jt_in 781 (by decide +kernel) rfl
theorem dk_758 : (Jvm.Cond.instanceMethod ({ cls := "DriftNetModel", name := "got", desc := "(II)I" } : Jvm.MethodName)) ∈ jt_tb := jt_in 782 (by decide +kernel) rfl
theorem dk_759 : (Jvm.Cond.selects "DriftNetModel" ({ cls := "DriftNetModel", name := "got", desc := "(II)I" } : Jvm.MethodName) ({ cls := "DriftNetModel", name := "got", desc := "(II)I" } : Jvm.MethodName)) ∈ jt_tb := jt_in 783 (by decide +kernel) rfl
theorem dk_760 : (Jvm.Cond.code ({ cls := "DriftNetModel", name := "got", desc := "(II)I" } : Jvm.MethodName) prog_7_method_25_code (3 : Nat) (Option.some Jvm.ClassFile.FieldType.int)) ∈ jt_tb := jt_in 784 (by decide +kernel) rfl
theorem dk_761 : (Jvm.Cond.methodLink "DriftNetLaw" (131 : Nat) ({ cls := "DriftNetModel", name := "circle", desc := "(I)I" } : Jvm.MethodName)) ∈ jt_tb := jt_in 785 (by decide +kernel) rfl
theorem dk_762 : (Jvm.Cond.instanceMethod ({ cls := "DriftNetModel", name := "circle", desc := "(I)I" } : Jvm.MethodName)) ∈ jt_tb := jt_in 786 (by decide +kernel) rfl
theorem dk_763 : (Jvm.Cond.selects "DriftNetModel" ({ cls := "DriftNetModel", name := "circle", desc := "(I)I" } : Jvm.MethodName) ({ cls := "DriftNetModel", name := "circle", desc := "(I)I" } : Jvm.MethodName)) ∈ jt_tb := jt_in 787 (by decide +kernel) rfl
theorem dk_764 : (Jvm.Cond.code ({ cls := "DriftNetModel", name := "circle", desc := "(I)I" } : Jvm.MethodName) prog_7_method_26_code (5 : Nat) (Option.some Jvm.ClassFile.FieldType.int)) ∈ jt_tb := jt_in 788 (by decide +kernel) rfl
theorem dk_765 : (Jvm.Cond.methodLink "DriftNetLaw" (134 : Nat) ({ cls := "DriftNetModel", name := "best", desc := "(II)I" } : Jvm.MethodName)) ∈ jt_tb := jt_in 789 (by decide +kernel) rfl
theorem dk_766 : (Jvm.Cond.instanceMethod ({ cls := "DriftNetModel", name := "best", desc := "(II)I" } : Jvm.MethodName)) ∈ jt_tb := jt_in 790 (by decide +kernel) rfl
theorem dk_767 : (Jvm.Cond.selects "DriftNetModel" ({ cls := "DriftNetModel", name := "best", desc := "(II)I" } : Jvm.MethodName) ({ cls := "DriftNetModel", name := "best", desc := "(II)I" } : Jvm.MethodName)) ∈ jt_tb := jt_in 791 (by decide +kernel) rfl
theorem dk_768 : (Jvm.Cond.code ({ cls := "DriftNetModel", name := "best", desc := "(II)I" } : Jvm.MethodName) prog_7_method_27_code (7 : Nat) (Option.some Jvm.ClassFile.FieldType.int)) ∈ jt_tb := jt_in 792 (by decide +kernel) rfl
theorem dk_769 : (Jvm.Cond.methodLink "DriftNetLaw" (138 : Nat) ({ cls := "DriftNetModel", name := "clock", desc := "()I" } : Jvm.MethodName)) ∈ jt_tb := jt_in 793 (by decide +kernel) rfl
theorem dk_770 : (Jvm.Cond.instanceMethod ({ cls := "DriftNetModel", name := "clock", desc := "()I" } : Jvm.MethodName)) ∈ jt_tb := jt_in 794 (by decide +kernel) rfl
theorem dk_771 : (Jvm.Cond.selects "DriftNetModel" ({ cls := "DriftNetModel", name := "clock", desc := "()I" } : Jvm.MethodName) ({ cls := "DriftNetModel", name := "clock", desc := "()I" } : Jvm.MethodName)) ∈ jt_tb := jt_in 795 (by decide +kernel) rfl
theorem dk_772 : (Jvm.Cond.code ({ cls := "DriftNetModel", name := "clock", desc := "()I" } : Jvm.MethodName) prog_7_method_28_code (1 : Nat) (Option.some Jvm.ClassFile.FieldType.int)) ∈ jt_tb := jt_in 796 (by decide +kernel) rfl
theorem dk_773 : (Jvm.Cond.arrayClass Jvm.ClassFile.FieldType.long) ∈ jt_tb := jt_in 797 (by decide +kernel) rfl
