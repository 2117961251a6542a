theorem wm_1_0 : (Cond.initialized "SupplyContractLaw") ∈ wsU := zt1 (i := 0) rfl rfl
theorem wm_1_1 : (Cond.initialized "SupplyContract") ∈ wsU := zt1 (i := 1) rfl rfl
theorem wm_1_2 : (Cond.initialized "SupplyContract$Contract") ∈ wsU := zt1 (i := 2) rfl rfl
theorem wm_1_3 : (Cond.initialized "SupplyContract$Terms") ∈ wsU := zt1 (i := 3) rfl rfl
theorem wm_1_4 : (Cond.initialized "SupplyContract$Accounts") ∈ wsU := zt1 (i := 4) rfl rfl
theorem wm_1_5 : (Cond.initialized "SupplyContract$Breaches") ∈ wsU := zt1 (i := 5) rfl rfl
theorem wm_1_6 : (Cond.initialized "SupplyContract$History") ∈ wsU := zt1 (i := 6) rfl rfl
theorem wm_1_7 : (Cond.initialized "SupplyContract$SetupReader") ∈ wsU := zt1 (i := 7) rfl rfl
theorem wm_1_8 : (Cond.initialized "SupplyContract$InputText") ∈ wsU := zt1 (i := 8) rfl rfl
theorem wm_1_9 : (Cond.initialized "SupplyContract$DemandReader") ∈ wsU := zt1 (i := 9) rfl rfl
theorem wm_1_10 : (Cond.initialized "SupplyContract$WaiverSearch") ∈ wsU := zt1 (i := 10) rfl rfl
theorem wm_1_11 : (Cond.initialized "SupplyContractModel") ∈ wsU := zt1 (i := 11) rfl rfl
theorem wm_1_12 : (Cond.initialized "java/lang/Throwable") ∈ wsU := zt1 (i := 12) rfl rfl
theorem wm_1_13 : (Cond.initialized "java/lang/Exception") ∈ wsU := zt1 (i := 13) rfl rfl
theorem wm_1_14 : (Cond.initialized "java/lang/RuntimeException") ∈ wsU := zt1 (i := 14) rfl rfl
theorem wm_1_15 : (Cond.initialized "java/lang/IllegalArgumentException") ∈ wsU := zt1 (i := 15) rfl rfl
theorem wm_1_16 : (Cond.initialized "java/lang/Math") ∈ wsU := zt1 (i := 16) rfl rfl
theorem wm_1_17 : (Cond.initialized "java/lang/String") ∈ wsU := zt1 (i := 17) rfl rfl
theorem wm_1_18 : (Cond.initialized "java/lang/StringLatin1") ∈ wsU := zt1 (i := 18) rfl rfl
theorem wm_1_19 : (Cond.initialized "jdk/internal/util/Preconditions") ∈ wsU := zt1 (i := 19) rfl rfl
theorem wm_1_20 : (Cond.initialized "java/lang/StringUTF16") ∈ wsU := zt1 (i := 20) rfl rfl
theorem wm_1_21 : (Cond.initialized "java/util/Arrays") ∈ wsU := zt1 (i := 21) rfl rfl
theorem wm_1_22 : (Cond.initialized "java/lang/System") ∈ wsU := zt1 (i := 22) rfl rfl
theorem wm_1_23 : (Cond.initialized "java/lang/IndexOutOfBoundsException") ∈ wsU := zt1 (i := 23) rfl rfl
theorem wm_1_24 : (Cond.initialized "java/lang/IllegalStateException") ∈ wsU := zt1 (i := 24) rfl rfl
theorem wm_1_25 : (Cond.classLink "SupplyContractLaw" (8 : Nat) "SupplyContract") ∈ wsU := zt1 (i := 25) rfl rfl
theorem wm_1_26 : (Cond.instantiable "SupplyContract" (7 : Nat)) ∈ wsU := zt1 (i := 26) rfl rfl
theorem wm_1_27 : (Cond.methodLink "SupplyContractLaw" (84 : Nat) ({ cls := "SupplyContract", name := "<init>", desc := "()V" } : MethodName)) ∈ wsU := zt1 (i := 27) rfl rfl
theorem wm_1_28 : (Cond.instanceMethod ({ cls := "SupplyContract", name := "<init>", desc := "()V" } : MethodName)) ∈ wsU := zt1 (i := 28) rfl rfl
theorem wm_1_29 : (Cond.code ({ cls := "SupplyContract", name := "<init>", desc := "()V" } : MethodName) prog_1_method_1_code (1 : Nat) (Option.none : Option ClassFile.FieldType)) ∈ wsU := zt1 (i := 29) rfl rfl
theorem wm_1_30 : (Cond.methodLink "SupplyContract" (1 : Nat) ({ cls := "java/lang/Object", name := "<init>", desc := "()V" } : MethodName)) ∈ wsU := zt1 (i := 30) rfl rfl
theorem wm_1_31 : (Cond.instanceMethod ({ cls := "java/lang/Object", name := "<init>", desc := "()V" } : MethodName)) ∈ wsU := zt1 (i := 31) rfl rfl
theorem wm_1_32 : (Cond.code ({ cls := "java/lang/Object", name := "<init>", desc := "()V" } : MethodName) object_method_1_code (1 : Nat) (Option.none : Option ClassFile.FieldType)) ∈ wsU := zt1 (i := 32) rfl rfl
theorem wm_1_33 : (Cond.classLink "SupplyContract" (7 : Nat) "SupplyContract$Contract") ∈ wsU := zt1 (i := 33) rfl rfl
theorem wm_1_34 : (Cond.instantiable "SupplyContract$Contract" (3 : Nat)) ∈ wsU := zt1 (i := 34) rfl rfl
theorem wm_1_35 : (Cond.methodLinkNest "SupplyContract" (9 : Nat) ({ cls := "SupplyContract$Contract", name := "<init>", desc := "()V" } : MethodName) "SupplyContract") ∈ wsU := zt1 (i := 35) rfl rfl
theorem wm_1_36 : (Cond.instanceMethod ({ cls := "SupplyContract$Contract", name := "<init>", desc := "()V" } : MethodName)) ∈ wsU := zt1 (i := 36) rfl rfl
theorem wm_1_37 : (Cond.code ({ cls := "SupplyContract$Contract", name := "<init>", desc := "()V" } : MethodName) prog_4_method_1_code (1 : Nat) (Option.none : Option ClassFile.FieldType)) ∈ wsU := zt1 (i := 37) rfl rfl
theorem wm_1_38 : (Cond.methodLink "SupplyContract$Contract" (1 : Nat) ({ cls := "java/lang/Object", name := "<init>", desc := "()V" } : MethodName)) ∈ wsU := zt1 (i := 38) rfl rfl
theorem wm_1_39 : (Cond.classLink "SupplyContract$Contract" (7 : Nat) "SupplyContract$Terms") ∈ wsU := zt1 (i := 39) rfl rfl
theorem wm_1_40 : (Cond.instantiable "SupplyContract$Terms" (16 : Nat)) ∈ wsU := zt1 (i := 40) rfl rfl
theorem wm_1_41 : (Cond.methodLinkNest "SupplyContract$Contract" (9 : Nat) ({ cls := "SupplyContract$Terms", name := "<init>", desc := "()V" } : MethodName) "SupplyContract") ∈ wsU := zt1 (i := 41) rfl rfl
theorem wm_1_42 : (Cond.instanceMethod ({ cls := "SupplyContract$Terms", name := "<init>", desc := "()V" } : MethodName)) ∈ wsU := zt1 (i := 42) rfl rfl
theorem wm_1_43 : (Cond.code ({ cls := "SupplyContract$Terms", name := "<init>", desc := "()V" } : MethodName) prog_9_method_1_code (1 : Nat) (Option.none : Option ClassFile.FieldType)) ∈ wsU := zt1 (i := 43) rfl rfl
theorem wm_1_44 : (Cond.methodLink "SupplyContract$Terms" (3 : Nat) ({ cls := "java/lang/Object", name := "<init>", desc := "()V" } : MethodName)) ∈ wsU := zt1 (i := 44) rfl rfl
theorem wm_1_45 : (Cond.fieldLink "SupplyContract$Terms" (9 : Nat) "SupplyContract$Terms" "periods" "I") ∈ wsU := zt1 (i := 45) rfl rfl
theorem wm_1_46 : (Cond.fieldLinkNest "SupplyContract$SetupReader" (88 : Nat) "SupplyContract$Terms" "periods" "I" "SupplyContract") ∈ wsU := zt1 (i := 46) rfl rfl
theorem wm_1_47 : (Cond.fieldLinkNest "SupplyContract" (92 : Nat) "SupplyContract$Terms" "periods" "I" "SupplyContract") ∈ wsU := zt1 (i := 47) rfl rfl
theorem wm_1_48 : (Cond.fieldLinkNest "SupplyContract$Accounts" (73 : Nat) "SupplyContract$Terms" "periods" "I" "SupplyContract") ∈ wsU := zt1 (i := 48) rfl rfl
theorem wm_1_49 : (Cond.fieldLink "SupplyContract$Terms" (15 : Nat) "SupplyContract$Terms" "unitPrice" "I") ∈ wsU := zt1 (i := 49) rfl rfl
theorem wm_1_50 : (Cond.fieldLinkNest "SupplyContract$SetupReader" (99 : Nat) "SupplyContract$Terms" "unitPrice" "I" "SupplyContract") ∈ wsU := zt1 (i := 50) rfl rfl
theorem wm_1_51 : (Cond.fieldLinkNest "SupplyContract$Accounts" (90 : Nat) "SupplyContract$Terms" "unitPrice" "I" "SupplyContract") ∈ wsU := zt1 (i := 51) rfl rfl
theorem wm_1_52 : (Cond.fieldLink "SupplyContract$Terms" (18 : Nat) "SupplyContract$Terms" "fee" "I") ∈ wsU := zt1 (i := 52) rfl rfl
theorem wm_1_53 : (Cond.fieldLinkNest "SupplyContract$SetupReader" (102 : Nat) "SupplyContract$Terms" "fee" "I" "SupplyContract") ∈ wsU := zt1 (i := 53) rfl rfl
theorem wm_1_54 : (Cond.fieldLinkNest "SupplyContract$Accounts" (87 : Nat) "SupplyContract$Terms" "fee" "I" "SupplyContract") ∈ wsU := zt1 (i := 54) rfl rfl
theorem wm_1_55 : (Cond.fieldLink "SupplyContract$Terms" (21 : Nat) "SupplyContract$Terms" "spotLimit" "I") ∈ wsU := zt1 (i := 55) rfl rfl
theorem wm_1_56 : (Cond.fieldLinkNest "SupplyContract$SetupReader" (116 : Nat) "SupplyContract$Terms" "spotLimit" "I" "SupplyContract") ∈ wsU := zt1 (i := 56) rfl rfl
theorem wm_1_57 : (Cond.fieldLinkNest "SupplyContract$Accounts" (63 : Nat) "SupplyContract$Terms" "spotLimit" "I" "SupplyContract") ∈ wsU := zt1 (i := 57) rfl rfl
theorem wm_1_58 : (Cond.fieldLink "SupplyContract$Terms" (24 : Nat) "SupplyContract$Terms" "spotPrice" "I") ∈ wsU := zt1 (i := 58) rfl rfl
theorem wm_1_59 : (Cond.fieldLinkNest "SupplyContract$SetupReader" (119 : Nat) "SupplyContract$Terms" "spotPrice" "I" "SupplyContract") ∈ wsU := zt1 (i := 59) rfl rfl
theorem wm_1_60 : (Cond.fieldLinkNest "SupplyContract$Accounts" (93 : Nat) "SupplyContract$Terms" "spotPrice" "I" "SupplyContract") ∈ wsU := zt1 (i := 60) rfl rfl
theorem wm_1_61 : (Cond.fieldLink "SupplyContract$Terms" (27 : Nat) "SupplyContract$Terms" "window" "I") ∈ wsU := zt1 (i := 61) rfl rfl
theorem wm_1_62 : (Cond.fieldLinkNest "SupplyContract$SetupReader" (129 : Nat) "SupplyContract$Terms" "window" "I" "SupplyContract") ∈ wsU := zt1 (i := 62) rfl rfl
theorem wm_1_63 : (Cond.fieldLinkNest "SupplyContract$Accounts" (54 : Nat) "SupplyContract$Terms" "window" "I" "SupplyContract") ∈ wsU := zt1 (i := 63) rfl rfl
theorem wm_1_64 : (Cond.fieldLink "SupplyContract$Terms" (30 : Nat) "SupplyContract$Terms" "minimum" "I") ∈ wsU := zt1 (i := 64) rfl rfl
theorem wm_1_65 : (Cond.fieldLinkNest "SupplyContract$SetupReader" (133 : Nat) "SupplyContract$Terms" "minimum" "I" "SupplyContract") ∈ wsU := zt1 (i := 65) rfl rfl
theorem wm_1_66 : (Cond.fieldLinkNest "SupplyContract$Accounts" (79 : Nat) "SupplyContract$Terms" "minimum" "I" "SupplyContract") ∈ wsU := zt1 (i := 66) rfl rfl
theorem wm_1_67 : (Cond.fieldLink "SupplyContract$Terms" (33 : Nat) "SupplyContract$Terms" "missPrice" "I") ∈ wsU := zt1 (i := 67) rfl rfl
theorem wm_1_68 : (Cond.fieldLinkNest "SupplyContract$SetupReader" (137 : Nat) "SupplyContract$Terms" "missPrice" "I" "SupplyContract") ∈ wsU := zt1 (i := 68) rfl rfl
theorem wm_1_69 : (Cond.fieldLinkNest "SupplyContract$Accounts" (96 : Nat) "SupplyContract$Terms" "missPrice" "I" "SupplyContract") ∈ wsU := zt1 (i := 69) rfl rfl
theorem wm_1_70 : (Cond.fieldLink "SupplyContract$Terms" (36 : Nat) "SupplyContract$Terms" "waivers" "I") ∈ wsU := zt1 (i := 70) rfl rfl
theorem wm_1_71 : (Cond.fieldLinkNest "SupplyContract$WaiverSearch" (37 : Nat) "SupplyContract$Terms" "waivers" "I" "SupplyContract") ∈ wsU := zt1 (i := 71) rfl rfl
theorem wm_1_72 : (Cond.fieldLinkNest "SupplyContract$Breaches" (41 : Nat) "SupplyContract$Terms" "waivers" "I" "SupplyContract") ∈ wsU := zt1 (i := 72) rfl rfl
theorem wm_1_73 : (Cond.fieldLinkNest "SupplyContract$SetupReader" (142 : Nat) "SupplyContract$Terms" "waivers" "I" "SupplyContract") ∈ wsU := zt1 (i := 73) rfl rfl
theorem wm_1_74 : (Cond.fieldLinkNest "SupplyContract" (180 : Nat) "SupplyContract$Terms" "waivers" "I" "SupplyContract") ∈ wsU := zt1 (i := 74) rfl rfl
theorem wm_1_75 : (Cond.fieldLink "SupplyContract$Terms" (39 : Nat) "SupplyContract$Terms" "gap" "I") ∈ wsU := zt1 (i := 75) rfl rfl
theorem wm_1_76 : (Cond.fieldLinkNest "SupplyContract$WaiverSearch" (53 : Nat) "SupplyContract$Terms" "gap" "I" "SupplyContract") ∈ wsU := zt1 (i := 76) rfl rfl
theorem wm_1_77 : (Cond.fieldLinkNest "SupplyContract$Breaches" (46 : Nat) "SupplyContract$Terms" "gap" "I" "SupplyContract") ∈ wsU := zt1 (i := 77) rfl rfl
theorem wm_1_78 : (Cond.fieldLinkNest "SupplyContract$SetupReader" (144 : Nat) "SupplyContract$Terms" "gap" "I" "SupplyContract") ∈ wsU := zt1 (i := 78) rfl rfl
theorem wm_1_79 : (Cond.fieldLink "SupplyContract$Terms" (42 : Nat) "SupplyContract$Terms" "steps" "I") ∈ wsU := zt1 (i := 79) rfl rfl
theorem wm_1_80 : (Cond.fieldLinkNest "SupplyContract$SetupReader" (163 : Nat) "SupplyContract$Terms" "steps" "I" "SupplyContract") ∈ wsU := zt1 (i := 80) rfl rfl
theorem wm_1_81 : (Cond.fieldLink "SupplyContract$Terms" (45 : Nat) "SupplyContract$Terms" "stepPercent" "[I") ∈ wsU := zt1 (i := 81) rfl rfl
theorem wm_1_82 : (Cond.fieldLinkNest "SupplyContract$SetupReader" (166 : Nat) "SupplyContract$Terms" "stepPercent" "[I" "SupplyContract") ∈ wsU := zt1 (i := 82) rfl rfl
theorem wm_1_83 : (Cond.fieldLink "SupplyContract$Terms" (49 : Nat) "SupplyContract$Terms" "stepPrice" "[I") ∈ wsU := zt1 (i := 83) rfl rfl
theorem wm_1_84 : (Cond.fieldLinkNest "SupplyContract$SetupReader" (170 : Nat) "SupplyContract$Terms" "stepPrice" "[I" "SupplyContract") ∈ wsU := zt1 (i := 84) rfl rfl
theorem wm_1_85 : (Cond.fieldLink "SupplyContract$Terms" (52 : Nat) "SupplyContract$Terms" "bandLeads" "J") ∈ wsU := zt1 (i := 85) rfl rfl
theorem wm_1_86 : (Cond.fieldLink "SupplyContract$Terms" (56 : Nat) "SupplyContract$Terms" "low" "[I") ∈ wsU := zt1 (i := 86) rfl rfl
theorem wm_1_87 : (Cond.fieldLink "SupplyContract$Terms" (59 : Nat) "SupplyContract$Terms" "high" "[I") ∈ wsU := zt1 (i := 87) rfl rfl
theorem wm_1_88 : (Cond.lays "SupplyContract$Terms" "SupplyContract$Terms" "periods" "I") ∈ wsU := zt1 (i := 88) rfl rfl
theorem wm_1_89 : (Cond.soleField "SupplyContract$Terms" "periods") ∈ wsU := zt1 (i := 89) rfl rfl
theorem wm_1_90 : (Cond.lays "SupplyContract$Terms" "SupplyContract$Terms" "unitPrice" "I") ∈ wsU := zt1 (i := 90) rfl rfl
theorem wm_1_91 : (Cond.soleField "SupplyContract$Terms" "unitPrice") ∈ wsU := zt1 (i := 91) rfl rfl
theorem wm_1_92 : (Cond.lays "SupplyContract$Terms" "SupplyContract$Terms" "fee" "I") ∈ wsU := zt1 (i := 92) rfl rfl
theorem wm_1_93 : (Cond.soleField "SupplyContract$Terms" "fee") ∈ wsU := zt1 (i := 93) rfl rfl
theorem wm_1_94 : (Cond.lays "SupplyContract$Terms" "SupplyContract$Terms" "spotLimit" "I") ∈ wsU := zt1 (i := 94) rfl rfl
theorem wm_1_95 : (Cond.soleField "SupplyContract$Terms" "spotLimit") ∈ wsU := zt1 (i := 95) rfl rfl
theorem wm_1_96 : (Cond.lays "SupplyContract$Terms" "SupplyContract$Terms" "spotPrice" "I") ∈ wsU := zt1 (i := 96) rfl rfl
theorem wm_1_97 : (Cond.soleField "SupplyContract$Terms" "spotPrice") ∈ wsU := zt1 (i := 97) rfl rfl
theorem wm_1_98 : (Cond.lays "SupplyContract$Terms" "SupplyContract$Terms" "window" "I") ∈ wsU := zt1 (i := 98) rfl rfl
theorem wm_1_99 : (Cond.soleField "SupplyContract$Terms" "window") ∈ wsU := zt1 (i := 99) rfl rfl
theorem wm_1_100 : (Cond.lays "SupplyContract$Terms" "SupplyContract$Terms" "minimum" "I") ∈ wsU := zt1 (i := 100) rfl rfl
theorem wm_1_101 : (Cond.soleField "SupplyContract$Terms" "minimum") ∈ wsU := zt1 (i := 101) rfl rfl
theorem wm_1_102 : (Cond.lays "SupplyContract$Terms" "SupplyContract$Terms" "missPrice" "I") ∈ wsU := zt1 (i := 102) rfl rfl
theorem wm_1_103 : (Cond.soleField "SupplyContract$Terms" "missPrice") ∈ wsU := zt1 (i := 103) rfl rfl
theorem wm_1_104 : (Cond.lays "SupplyContract$Terms" "SupplyContract$Terms" "waivers" "I") ∈ wsU := zt1 (i := 104) rfl rfl
theorem wm_1_105 : (Cond.soleField "SupplyContract$Terms" "waivers") ∈ wsU := zt1 (i := 105) rfl rfl
theorem wm_1_106 : (Cond.lays "SupplyContract$Terms" "SupplyContract$Terms" "gap" "I") ∈ wsU := zt1 (i := 106) rfl rfl
theorem wm_1_107 : (Cond.soleField "SupplyContract$Terms" "gap") ∈ wsU := zt1 (i := 107) rfl rfl
theorem wm_1_108 : (Cond.lays "SupplyContract$Terms" "SupplyContract$Terms" "steps" "I") ∈ wsU := zt1 (i := 108) rfl rfl
theorem wm_1_109 : (Cond.soleField "SupplyContract$Terms" "steps") ∈ wsU := zt1 (i := 109) rfl rfl
theorem wm_1_110 : (Cond.laysFinal "SupplyContract$Terms" "SupplyContract$Terms" "stepPercent" "[I") ∈ wsU := zt1 (i := 110) rfl rfl
theorem wm_1_111 : (Cond.soleField "SupplyContract$Terms" "stepPercent") ∈ wsU := zt1 (i := 111) rfl rfl
theorem wm_1_112 : (Cond.laysFinal "SupplyContract$Terms" "SupplyContract$Terms" "stepPrice" "[I") ∈ wsU := zt1 (i := 112) rfl rfl
theorem wm_1_113 : (Cond.soleField "SupplyContract$Terms" "stepPrice") ∈ wsU := zt1 (i := 113) rfl rfl
theorem wm_1_114 : (Cond.lays "SupplyContract$Terms" "SupplyContract$Terms" "bandLeads" "J") ∈ wsU := zt1 (i := 114) rfl rfl
theorem wm_1_115 : (Cond.soleField "SupplyContract$Terms" "bandLeads") ∈ wsU := zt1 (i := 115) rfl rfl
theorem wm_1_116 : (Cond.laysFinal "SupplyContract$Terms" "SupplyContract$Terms" "low" "[I") ∈ wsU := zt1 (i := 116) rfl rfl
theorem wm_1_117 : (Cond.soleField "SupplyContract$Terms" "low") ∈ wsU := zt1 (i := 117) rfl rfl
theorem wm_1_118 : (Cond.laysFinal "SupplyContract$Terms" "SupplyContract$Terms" "high" "[I") ∈ wsU := zt1 (i := 118) rfl rfl
theorem wm_1_119 : (Cond.soleField "SupplyContract$Terms" "high") ∈ wsU := zt1 (i := 119) rfl rfl
theorem wm_1_120 : (Cond.superclass "SupplyContract$Terms" "java/lang/Object") ∈ wsU := zt1 (i := 120) rfl rfl
theorem wm_1_121 : (Cond.arrayClass ClassFile.FieldType.int) ∈ wsU := zt1 (i := 121) rfl rfl
theorem wm_1_122 : (Cond.classLink "SupplyContract$Contract" (16 : Nat) "SupplyContract$Accounts") ∈ wsU := zt1 (i := 122) rfl rfl
theorem wm_1_123 : (Cond.instantiable "SupplyContract$Accounts" (7 : Nat)) ∈ wsU := zt1 (i := 123) rfl rfl
theorem wm_1_124 : (Cond.methodLinkNest "SupplyContract$Contract" (18 : Nat) ({ cls := "SupplyContract$Accounts", name := "<init>", desc := "()V" } : MethodName) "SupplyContract") ∈ wsU := zt1 (i := 124) rfl rfl
theorem wm_1_125 : (Cond.instanceMethod ({ cls := "SupplyContract$Accounts", name := "<init>", desc := "()V" } : MethodName)) ∈ wsU := zt1 (i := 125) rfl rfl
theorem wm_1_126 : (Cond.code ({ cls := "SupplyContract$Accounts", name := "<init>", desc := "()V" } : MethodName) prog_2_method_1_code (1 : Nat) (Option.none : Option ClassFile.FieldType)) ∈ wsU := zt1 (i := 126) rfl rfl
theorem wm_1_127 : (Cond.methodLink "SupplyContract$Accounts" (3 : Nat) ({ cls := "java/lang/Object", name := "<init>", desc := "()V" } : MethodName)) ∈ wsU := zt1 (i := 127) rfl rfl
theorem wm_1_128 : (Cond.fieldLink "SupplyContract$Accounts" (9 : Nat) "SupplyContract$Accounts" "clock" "I") ∈ wsU := zt1 (i := 128) rfl rfl
theorem wm_1_129 : (Cond.fieldLinkNest "SupplyContract" (100 : Nat) "SupplyContract$Accounts" "clock" "I" "SupplyContract") ∈ wsU := zt1 (i := 129) rfl rfl
theorem wm_1_130 : (Cond.fieldLink "SupplyContract$Accounts" (15 : Nat) "SupplyContract$Accounts" "reserved" "[I") ∈ wsU := zt1 (i := 130) rfl rfl
theorem wm_1_131 : (Cond.fieldLinkNest "SupplyContract" (106 : Nat) "SupplyContract$Accounts" "reserved" "[I" "SupplyContract") ∈ wsU := zt1 (i := 131) rfl rfl
theorem wm_1_132 : (Cond.fieldLinkNest "SupplyContract$SetupReader" (179 : Nat) "SupplyContract$Accounts" "reserved" "[I" "SupplyContract") ∈ wsU := zt1 (i := 132) rfl rfl
theorem wm_1_133 : (Cond.fieldLink "SupplyContract$Accounts" (19 : Nat) "SupplyContract$Accounts" "forecast" "[I") ∈ wsU := zt1 (i := 133) rfl rfl
theorem wm_1_134 : (Cond.fieldLinkNest "SupplyContract" (110 : Nat) "SupplyContract$Accounts" "forecast" "[I" "SupplyContract") ∈ wsU := zt1 (i := 134) rfl rfl
theorem wm_1_135 : (Cond.fieldLinkNest "SupplyContract$SetupReader" (184 : Nat) "SupplyContract$Accounts" "forecast" "[I" "SupplyContract") ∈ wsU := zt1 (i := 135) rfl rfl
theorem wm_1_136 : (Cond.fieldLink "SupplyContract$Accounts" (22 : Nat) "SupplyContract$Accounts" "order" "[I") ∈ wsU := zt1 (i := 136) rfl rfl
theorem wm_1_137 : (Cond.fieldLinkNest "SupplyContract" (113 : Nat) "SupplyContract$Accounts" "order" "[I" "SupplyContract") ∈ wsU := zt1 (i := 137) rfl rfl
theorem wm_1_138 : (Cond.fieldLink "SupplyContract$Accounts" (25 : Nat) "SupplyContract$Accounts" "open" "[I") ∈ wsU := zt1 (i := 138) rfl rfl
theorem wm_1_139 : (Cond.fieldLinkNest "SupplyContract" (116 : Nat) "SupplyContract$Accounts" "open" "[I" "SupplyContract") ∈ wsU := zt1 (i := 139) rfl rfl
theorem wm_1_140 : (Cond.fieldLink "SupplyContract$Accounts" (28 : Nat) "SupplyContract$Accounts" "missed" "[I") ∈ wsU := zt1 (i := 140) rfl rfl
theorem wm_1_141 : (Cond.fieldLinkNest "SupplyContract" (119 : Nat) "SupplyContract$Accounts" "missed" "[I" "SupplyContract") ∈ wsU := zt1 (i := 141) rfl rfl
theorem wm_1_142 : (Cond.fieldLink "SupplyContract$Accounts" (31 : Nat) "SupplyContract$Accounts" "invoice" "[J") ∈ wsU := zt1 (i := 142) rfl rfl
theorem wm_1_143 : (Cond.fieldLinkNest "SupplyContract" (122 : Nat) "SupplyContract$Accounts" "invoice" "[J" "SupplyContract") ∈ wsU := zt1 (i := 143) rfl rfl
theorem wm_1_144 : (Cond.lays "SupplyContract$Accounts" "SupplyContract$Accounts" "clock" "I") ∈ wsU := zt1 (i := 144) rfl rfl
theorem wm_1_145 : (Cond.soleField "SupplyContract$Accounts" "clock") ∈ wsU := zt1 (i := 145) rfl rfl
theorem wm_1_146 : (Cond.laysFinal "SupplyContract$Accounts" "SupplyContract$Accounts" "reserved" "[I") ∈ wsU := zt1 (i := 146) rfl rfl
theorem wm_1_147 : (Cond.soleField "SupplyContract$Accounts" "reserved") ∈ wsU := zt1 (i := 147) rfl rfl
theorem wm_1_148 : (Cond.laysFinal "SupplyContract$Accounts" "SupplyContract$Accounts" "forecast" "[I") ∈ wsU := zt1 (i := 148) rfl rfl
theorem wm_1_149 : (Cond.soleField "SupplyContract$Accounts" "forecast") ∈ wsU := zt1 (i := 149) rfl rfl
theorem wm_1_150 : (Cond.laysFinal "SupplyContract$Accounts" "SupplyContract$Accounts" "order" "[I") ∈ wsU := zt1 (i := 150) rfl rfl
theorem wm_1_151 : (Cond.soleField "SupplyContract$Accounts" "order") ∈ wsU := zt1 (i := 151) rfl rfl
theorem wm_1_152 : (Cond.laysFinal "SupplyContract$Accounts" "SupplyContract$Accounts" "open" "[I") ∈ wsU := zt1 (i := 152) rfl rfl
theorem wm_1_153 : (Cond.soleField "SupplyContract$Accounts" "open") ∈ wsU := zt1 (i := 153) rfl rfl
theorem wm_1_154 : (Cond.laysFinal "SupplyContract$Accounts" "SupplyContract$Accounts" "missed" "[I") ∈ wsU := zt1 (i := 154) rfl rfl
theorem wm_1_155 : (Cond.soleField "SupplyContract$Accounts" "missed") ∈ wsU := zt1 (i := 155) rfl rfl
theorem wm_1_156 : (Cond.laysFinal "SupplyContract$Accounts" "SupplyContract$Accounts" "invoice" "[J") ∈ wsU := zt1 (i := 156) rfl rfl
theorem wm_1_157 : (Cond.soleField "SupplyContract$Accounts" "invoice") ∈ wsU := zt1 (i := 157) rfl rfl
theorem wm_1_158 : (Cond.superclass "SupplyContract$Accounts" "java/lang/Object") ∈ wsU := zt1 (i := 158) rfl rfl
theorem wm_1_159 : (Cond.arrayClass ClassFile.FieldType.long) ∈ wsU := zt1 (i := 159) rfl rfl
theorem wm_1_160 : (Cond.classLink "SupplyContract$Contract" (23 : Nat) "SupplyContract$Breaches") ∈ wsU := zt1 (i := 160) rfl rfl
theorem wm_1_161 : (Cond.instantiable "SupplyContract$Breaches" (7 : Nat)) ∈ wsU := zt1 (i := 161) rfl rfl
theorem wm_1_162 : (Cond.methodLinkNest "SupplyContract$Contract" (25 : Nat) ({ cls := "SupplyContract$Breaches", name := "<init>", desc := "()V" } : MethodName) "SupplyContract") ∈ wsU := zt1 (i := 162) rfl rfl
theorem wm_1_163 : (Cond.instanceMethod ({ cls := "SupplyContract$Breaches", name := "<init>", desc := "()V" } : MethodName)) ∈ wsU := zt1 (i := 163) rfl rfl
theorem wm_1_164 : (Cond.code ({ cls := "SupplyContract$Breaches", name := "<init>", desc := "()V" } : MethodName) prog_3_method_1_code (1 : Nat) (Option.none : Option ClassFile.FieldType)) ∈ wsU := zt1 (i := 164) rfl rfl
theorem wm_1_165 : (Cond.methodLink "SupplyContract$Breaches" (3 : Nat) ({ cls := "java/lang/Object", name := "<init>", desc := "()V" } : MethodName)) ∈ wsU := zt1 (i := 165) rfl rfl
theorem wm_1_166 : (Cond.fieldLink "SupplyContract$Breaches" (9 : Nat) "SupplyContract$Breaches" "recorded" "I") ∈ wsU := zt1 (i := 166) rfl rfl
theorem wm_1_167 : (Cond.fieldLinkNest "SupplyContract$WaiverSearch" (54 : Nat) "SupplyContract$Breaches" "recorded" "I" "SupplyContract") ∈ wsU := zt1 (i := 167) rfl rfl
theorem wm_1_168 : (Cond.fieldLinkNest "SupplyContract" (159 : Nat) "SupplyContract$Breaches" "recorded" "I" "SupplyContract") ∈ wsU := zt1 (i := 168) rfl rfl
theorem wm_1_169 : (Cond.fieldLink "SupplyContract$Breaches" (15 : Nat) "SupplyContract$Breaches" "all" "I") ∈ wsU := zt1 (i := 169) rfl rfl
theorem wm_1_170 : (Cond.fieldLinkNest "SupplyContract" (162 : Nat) "SupplyContract$Breaches" "all" "I" "SupplyContract") ∈ wsU := zt1 (i := 170) rfl rfl
theorem wm_1_171 : (Cond.fieldLink "SupplyContract$Breaches" (18 : Nat) "SupplyContract$Breaches" "waivedCount" "I") ∈ wsU := zt1 (i := 171) rfl rfl
theorem wm_1_172 : (Cond.fieldLinkNest "SupplyContract$WaiverSearch" (42 : Nat) "SupplyContract$Breaches" "waivedCount" "I" "SupplyContract") ∈ wsU := zt1 (i := 172) rfl rfl
theorem wm_1_173 : (Cond.fieldLinkNest "SupplyContract" (183 : Nat) "SupplyContract$Breaches" "waivedCount" "I" "SupplyContract") ∈ wsU := zt1 (i := 173) rfl rfl
theorem wm_1_174 : (Cond.fieldLink "SupplyContract$Breaches" (21 : Nat) "SupplyContract$Breaches" "period" "[I") ∈ wsU := zt1 (i := 174) rfl rfl
theorem wm_1_175 : (Cond.fieldLinkNest "SupplyContract" (168 : Nat) "SupplyContract$Breaches" "period" "[I" "SupplyContract") ∈ wsU := zt1 (i := 175) rfl rfl
theorem wm_1_176 : (Cond.fieldLink "SupplyContract$Breaches" (25 : Nat) "SupplyContract$Breaches" "kind" "[I") ∈ wsU := zt1 (i := 176) rfl rfl
theorem wm_1_177 : (Cond.fieldLinkNest "SupplyContract" (171 : Nat) "SupplyContract$Breaches" "kind" "[I" "SupplyContract") ∈ wsU := zt1 (i := 177) rfl rfl
theorem wm_1_178 : (Cond.fieldLink "SupplyContract$Breaches" (28 : Nat) "SupplyContract$Breaches" "penalty" "[I") ∈ wsU := zt1 (i := 178) rfl rfl
theorem wm_1_179 : (Cond.fieldLinkNest "SupplyContract$WaiverSearch" (57 : Nat) "SupplyContract$Breaches" "penalty" "[I" "SupplyContract") ∈ wsU := zt1 (i := 179) rfl rfl
theorem wm_1_180 : (Cond.fieldLinkNest "SupplyContract" (174 : Nat) "SupplyContract$Breaches" "penalty" "[I" "SupplyContract") ∈ wsU := zt1 (i := 180) rfl rfl
theorem wm_1_181 : (Cond.fieldLink "SupplyContract$Breaches" (31 : Nat) "SupplyContract$Breaches" "waived" "[Z") ∈ wsU := zt1 (i := 181) rfl rfl
theorem wm_1_182 : (Cond.fieldLinkNest "SupplyContract" (176 : Nat) "SupplyContract$Breaches" "waived" "[Z" "SupplyContract") ∈ wsU := zt1 (i := 182) rfl rfl
theorem wm_1_183 : (Cond.lays "SupplyContract$Breaches" "SupplyContract$Breaches" "recorded" "I") ∈ wsU := zt1 (i := 183) rfl rfl
theorem wm_1_184 : (Cond.soleField "SupplyContract$Breaches" "recorded") ∈ wsU := zt1 (i := 184) rfl rfl
theorem wm_1_185 : (Cond.lays "SupplyContract$Breaches" "SupplyContract$Breaches" "all" "I") ∈ wsU := zt1 (i := 185) rfl rfl
theorem wm_1_186 : (Cond.soleField "SupplyContract$Breaches" "all") ∈ wsU := zt1 (i := 186) rfl rfl
theorem wm_1_187 : (Cond.lays "SupplyContract$Breaches" "SupplyContract$Breaches" "waivedCount" "I") ∈ wsU := zt1 (i := 187) rfl rfl
theorem wm_1_188 : (Cond.soleField "SupplyContract$Breaches" "waivedCount") ∈ wsU := zt1 (i := 188) rfl rfl
theorem wm_1_189 : (Cond.laysFinal "SupplyContract$Breaches" "SupplyContract$Breaches" "period" "[I") ∈ wsU := zt1 (i := 189) rfl rfl
theorem wm_1_190 : (Cond.soleField "SupplyContract$Breaches" "period") ∈ wsU := zt1 (i := 190) rfl rfl
theorem wm_1_191 : (Cond.laysFinal "SupplyContract$Breaches" "SupplyContract$Breaches" "kind" "[I") ∈ wsU := zt1 (i := 191) rfl rfl
theorem wm_1_192 : (Cond.soleField "SupplyContract$Breaches" "kind") ∈ wsU := zt1 (i := 192) rfl rfl
theorem wm_1_193 : (Cond.laysFinal "SupplyContract$Breaches" "SupplyContract$Breaches" "penalty" "[I") ∈ wsU := zt1 (i := 193) rfl rfl
theorem wm_1_194 : (Cond.soleField "SupplyContract$Breaches" "penalty") ∈ wsU := zt1 (i := 194) rfl rfl
theorem wm_1_195 : (Cond.laysFinal "SupplyContract$Breaches" "SupplyContract$Breaches" "waived" "[Z") ∈ wsU := zt1 (i := 195) rfl rfl
theorem wm_1_196 : (Cond.soleField "SupplyContract$Breaches" "waived") ∈ wsU := zt1 (i := 196) rfl rfl
theorem wm_1_197 : (Cond.superclass "SupplyContract$Breaches" "java/lang/Object") ∈ wsU := zt1 (i := 197) rfl rfl
theorem wm_1_198 : (Cond.arrayClass ClassFile.FieldType.boolean) ∈ wsU := zt1 (i := 198) rfl rfl
theorem wm_1_199 : (Cond.fieldLink "SupplyContract$Contract" (10 : Nat) "SupplyContract$Contract" "terms" "LSupplyContract$Terms;") ∈ wsU := zt1 (i := 199) rfl rfl
theorem wm_1_200 : (Cond.fieldLinkNest "SupplyContract$SetupReader" (43 : Nat) "SupplyContract$Contract" "terms" "LSupplyContract$Terms;" "SupplyContract") ∈ wsU := zt1 (i := 200) rfl rfl
theorem wm_1_201 : (Cond.fieldLinkNest "SupplyContract" (88 : Nat) "SupplyContract$Contract" "terms" "LSupplyContract$Terms;" "SupplyContract") ∈ wsU := zt1 (i := 201) rfl rfl
theorem wm_1_202 : (Cond.fieldLink "SupplyContract$Contract" (19 : Nat) "SupplyContract$Contract" "accounts" "LSupplyContract$Accounts;") ∈ wsU := zt1 (i := 202) rfl rfl
theorem wm_1_203 : (Cond.fieldLinkNest "SupplyContract$SetupReader" (91 : Nat) "SupplyContract$Contract" "accounts" "LSupplyContract$Accounts;" "SupplyContract") ∈ wsU := zt1 (i := 203) rfl rfl
theorem wm_1_204 : (Cond.fieldLinkNest "SupplyContract" (97 : Nat) "SupplyContract$Contract" "accounts" "LSupplyContract$Accounts;" "SupplyContract") ∈ wsU := zt1 (i := 204) rfl rfl
theorem wm_1_205 : (Cond.fieldLink "SupplyContract$Contract" (26 : Nat) "SupplyContract$Contract" "breaches" "LSupplyContract$Breaches;") ∈ wsU := zt1 (i := 205) rfl rfl
theorem wm_1_206 : (Cond.fieldLinkNest "SupplyContract" (130 : Nat) "SupplyContract$Contract" "breaches" "LSupplyContract$Breaches;" "SupplyContract") ∈ wsU := zt1 (i := 206) rfl rfl
theorem wm_1_207 : (Cond.laysFinal "SupplyContract$Contract" "SupplyContract$Contract" "terms" "LSupplyContract$Terms;") ∈ wsU := zt1 (i := 207) rfl rfl
theorem wm_1_208 : (Cond.soleField "SupplyContract$Contract" "terms") ∈ wsU := zt1 (i := 208) rfl rfl
theorem wm_1_209 : (Cond.laysFinal "SupplyContract$Contract" "SupplyContract$Contract" "accounts" "LSupplyContract$Accounts;") ∈ wsU := zt1 (i := 209) rfl rfl
theorem wm_1_210 : (Cond.soleField "SupplyContract$Contract" "accounts") ∈ wsU := zt1 (i := 210) rfl rfl
theorem wm_1_211 : (Cond.laysFinal "SupplyContract$Contract" "SupplyContract$Contract" "breaches" "LSupplyContract$Breaches;") ∈ wsU := zt1 (i := 211) rfl rfl
theorem wm_1_212 : (Cond.soleField "SupplyContract$Contract" "breaches") ∈ wsU := zt1 (i := 212) rfl rfl
theorem wm_1_213 : (Cond.superclass "SupplyContract$Contract" "java/lang/Object") ∈ wsU := zt1 (i := 213) rfl rfl
theorem wm_1_214 : (Cond.classLink "SupplyContract" (16 : Nat) "SupplyContract$History") ∈ wsU := zt1 (i := 214) rfl rfl
theorem wm_1_215 : (Cond.instantiable "SupplyContract$History" (3 : Nat)) ∈ wsU := zt1 (i := 215) rfl rfl
theorem wm_1_216 : (Cond.methodLinkNest "SupplyContract" (18 : Nat) ({ cls := "SupplyContract$History", name := "<init>", desc := "()V" } : MethodName) "SupplyContract") ∈ wsU := zt1 (i := 216) rfl rfl
theorem wm_1_217 : (Cond.instanceMethod ({ cls := "SupplyContract$History", name := "<init>", desc := "()V" } : MethodName)) ∈ wsU := zt1 (i := 217) rfl rfl
theorem wm_1_218 : (Cond.code ({ cls := "SupplyContract$History", name := "<init>", desc := "()V" } : MethodName) prog_6_method_1_code (1 : Nat) (Option.none : Option ClassFile.FieldType)) ∈ wsU := zt1 (i := 218) rfl rfl
theorem wm_1_219 : (Cond.methodLink "SupplyContract$History" (3 : Nat) ({ cls := "java/lang/Object", name := "<init>", desc := "()V" } : MethodName)) ∈ wsU := zt1 (i := 219) rfl rfl
theorem wm_1_220 : (Cond.classLink "SupplyContract$History" (9 : Nat) "SupplyContract$Contract") ∈ wsU := zt1 (i := 220) rfl rfl
theorem wm_1_221 : (Cond.arrayOver (ClassFile.FieldType.object "SupplyContract$Contract")) ∈ wsU := zt1 (i := 221) rfl rfl
theorem wm_1_222 : (Cond.fieldLink "SupplyContract$History" (11 : Nat) "SupplyContract$History" "kept" "[LSupplyContract$Contract;") ∈ wsU := zt1 (i := 222) rfl rfl
theorem wm_1_223 : (Cond.fieldLink "SupplyContract$History" (17 : Nat) "SupplyContract$History" "next" "I") ∈ wsU := zt1 (i := 223) rfl rfl
theorem wm_1_224 : (Cond.fieldLink "SupplyContract$History" (21 : Nat) "SupplyContract$History" "count" "I") ∈ wsU := zt1 (i := 224) rfl rfl
theorem wm_1_225 : (Cond.laysFinal "SupplyContract$History" "SupplyContract$History" "kept" "[LSupplyContract$Contract;") ∈ wsU := zt1 (i := 225) rfl rfl
theorem wm_1_226 : (Cond.soleField "SupplyContract$History" "kept") ∈ wsU := zt1 (i := 226) rfl rfl
theorem wm_1_227 : (Cond.lays "SupplyContract$History" "SupplyContract$History" "next" "I") ∈ wsU := zt1 (i := 227) rfl rfl
theorem wm_1_228 : (Cond.soleField "SupplyContract$History" "next") ∈ wsU := zt1 (i := 228) rfl rfl
theorem wm_1_229 : (Cond.lays "SupplyContract$History" "SupplyContract$History" "count" "I") ∈ wsU := zt1 (i := 229) rfl rfl
theorem wm_1_230 : (Cond.soleField "SupplyContract$History" "count") ∈ wsU := zt1 (i := 230) rfl rfl
theorem wm_1_231 : (Cond.superclass "SupplyContract$History" "java/lang/Object") ∈ wsU := zt1 (i := 231) rfl rfl
theorem wm_1_232 : (Cond.classLink "SupplyContract" (23 : Nat) "SupplyContract$SetupReader") ∈ wsU := zt1 (i := 232) rfl rfl
theorem wm_1_233 : (Cond.instantiable "SupplyContract$SetupReader" (5 : Nat)) ∈ wsU := zt1 (i := 233) rfl rfl
theorem wm_1_234 : (Cond.methodLinkNest "SupplyContract" (25 : Nat) ({ cls := "SupplyContract$SetupReader", name := "<init>", desc := "()V" } : MethodName) "SupplyContract") ∈ wsU := zt1 (i := 234) rfl rfl
theorem wm_1_235 : (Cond.instanceMethod ({ cls := "SupplyContract$SetupReader", name := "<init>", desc := "()V" } : MethodName)) ∈ wsU := zt1 (i := 235) rfl rfl
theorem wm_1_236 : (Cond.code ({ cls := "SupplyContract$SetupReader", name := "<init>", desc := "()V" } : MethodName) prog_8_method_1_code (1 : Nat) (Option.none : Option ClassFile.FieldType)) ∈ wsU := zt1 (i := 236) rfl rfl
theorem wm_1_237 : (Cond.methodLink "SupplyContract$SetupReader" (3 : Nat) ({ cls := "java/lang/Object", name := "<init>", desc := "()V" } : MethodName)) ∈ wsU := zt1 (i := 237) rfl rfl
theorem wm_1_238 : (Cond.classLink "SupplyContract$SetupReader" (9 : Nat) "SupplyContract$InputText") ∈ wsU := zt1 (i := 238) rfl rfl
theorem wm_1_239 : (Cond.instantiable "SupplyContract$InputText" (9 : Nat)) ∈ wsU := zt1 (i := 239) rfl rfl
theorem wm_2_0 : (Cond.methodLinkNest "SupplyContract$SetupReader" (11 : Nat) ({ cls := "SupplyContract$InputText", name := "<init>", desc := "()V" } : MethodName) "SupplyContract") ∈ wsU := zt2 (i := 0) rfl rfl
theorem wm_2_1 : (Cond.instanceMethod ({ cls := "SupplyContract$InputText", name := "<init>", desc := "()V" } : MethodName)) ∈ wsU := zt2 (i := 1) rfl rfl
theorem wm_2_2 : (Cond.code ({ cls := "SupplyContract$InputText", name := "<init>", desc := "()V" } : MethodName) prog_7_method_1_code (1 : Nat) (Option.none : Option ClassFile.FieldType)) ∈ wsU := zt2 (i := 2) rfl rfl
theorem wm_2_3 : (Cond.methodLink "SupplyContract$InputText" (3 : Nat) ({ cls := "java/lang/Object", name := "<init>", desc := "()V" } : MethodName)) ∈ wsU := zt2 (i := 3) rfl rfl
theorem wm_2_4 : (Cond.fieldLink "SupplyContract$InputText" (9 : Nat) "SupplyContract$InputText" "text" "[B") ∈ wsU := zt2 (i := 4) rfl rfl
theorem wm_2_5 : (Cond.fieldLink "SupplyContract$InputText" (15 : Nat) "SupplyContract$InputText" "filled" "I") ∈ wsU := zt2 (i := 5) rfl rfl
theorem wm_2_6 : (Cond.fieldLinkNest "SupplyContract" (55 : Nat) "SupplyContract$InputText" "filled" "I" "SupplyContract") ∈ wsU := zt2 (i := 6) rfl rfl
theorem wm_2_7 : (Cond.fieldLink "SupplyContract$InputText" (19 : Nat) "SupplyContract$InputText" "length" "I") ∈ wsU := zt2 (i := 7) rfl rfl
theorem wm_2_8 : (Cond.fieldLink "SupplyContract$InputText" (22 : Nat) "SupplyContract$InputText" "at" "I") ∈ wsU := zt2 (i := 8) rfl rfl
theorem wm_2_9 : (Cond.fieldLink "SupplyContract$InputText" (25 : Nat) "SupplyContract$InputText" "kind" "I") ∈ wsU := zt2 (i := 9) rfl rfl
theorem wm_2_10 : (Cond.fieldLinkNest "SupplyContract$SetupReader" (55 : Nat) "SupplyContract$InputText" "kind" "I" "SupplyContract") ∈ wsU := zt2 (i := 10) rfl rfl
theorem wm_2_11 : (Cond.fieldLinkNest "SupplyContract$DemandReader" (39 : Nat) "SupplyContract$InputText" "kind" "I" "SupplyContract") ∈ wsU := zt2 (i := 11) rfl rfl
theorem wm_2_12 : (Cond.fieldLink "SupplyContract$InputText" (28 : Nat) "SupplyContract$InputText" "tokenStart" "I") ∈ wsU := zt2 (i := 12) rfl rfl
theorem wm_2_13 : (Cond.fieldLinkNest "SupplyContract$SetupReader" (77 : Nat) "SupplyContract$InputText" "tokenStart" "I" "SupplyContract") ∈ wsU := zt2 (i := 13) rfl rfl
theorem wm_2_14 : (Cond.fieldLinkNest "SupplyContract$DemandReader" (42 : Nat) "SupplyContract$InputText" "tokenStart" "I" "SupplyContract") ∈ wsU := zt2 (i := 14) rfl rfl
theorem wm_2_15 : (Cond.fieldLink "SupplyContract$InputText" (31 : Nat) "SupplyContract$InputText" "value" "I") ∈ wsU := zt2 (i := 15) rfl rfl
theorem wm_2_16 : (Cond.fieldLink "SupplyContract$InputText" (34 : Nat) "SupplyContract$InputText" "error" "I") ∈ wsU := zt2 (i := 16) rfl rfl
theorem wm_2_17 : (Cond.fieldLinkNest "SupplyContract$SetupReader" (65 : Nat) "SupplyContract$InputText" "error" "I" "SupplyContract") ∈ wsU := zt2 (i := 17) rfl rfl
theorem wm_2_18 : (Cond.fieldLink "SupplyContract$InputText" (37 : Nat) "SupplyContract$InputText" "errorAt" "I") ∈ wsU := zt2 (i := 18) rfl rfl
theorem wm_2_19 : (Cond.fieldLinkNest "SupplyContract" (75 : Nat) "SupplyContract$InputText" "errorAt" "I" "SupplyContract") ∈ wsU := zt2 (i := 19) rfl rfl
theorem wm_2_20 : (Cond.laysFinal "SupplyContract$InputText" "SupplyContract$InputText" "text" "[B") ∈ wsU := zt2 (i := 20) rfl rfl
theorem wm_2_21 : (Cond.soleField "SupplyContract$InputText" "text") ∈ wsU := zt2 (i := 21) rfl rfl
theorem wm_2_22 : (Cond.lays "SupplyContract$InputText" "SupplyContract$InputText" "filled" "I") ∈ wsU := zt2 (i := 22) rfl rfl
theorem wm_2_23 : (Cond.soleField "SupplyContract$InputText" "filled") ∈ wsU := zt2 (i := 23) rfl rfl
theorem wm_2_24 : (Cond.lays "SupplyContract$InputText" "SupplyContract$InputText" "length" "I") ∈ wsU := zt2 (i := 24) rfl rfl
theorem wm_2_25 : (Cond.soleField "SupplyContract$InputText" "length") ∈ wsU := zt2 (i := 25) rfl rfl
theorem wm_2_26 : (Cond.lays "SupplyContract$InputText" "SupplyContract$InputText" "at" "I") ∈ wsU := zt2 (i := 26) rfl rfl
theorem wm_2_27 : (Cond.soleField "SupplyContract$InputText" "at") ∈ wsU := zt2 (i := 27) rfl rfl
theorem wm_2_28 : (Cond.lays "SupplyContract$InputText" "SupplyContract$InputText" "kind" "I") ∈ wsU := zt2 (i := 28) rfl rfl
theorem wm_2_29 : (Cond.soleField "SupplyContract$InputText" "kind") ∈ wsU := zt2 (i := 29) rfl rfl
theorem wm_2_30 : (Cond.lays "SupplyContract$InputText" "SupplyContract$InputText" "tokenStart" "I") ∈ wsU := zt2 (i := 30) rfl rfl
theorem wm_2_31 : (Cond.soleField "SupplyContract$InputText" "tokenStart") ∈ wsU := zt2 (i := 31) rfl rfl
theorem wm_2_32 : (Cond.lays "SupplyContract$InputText" "SupplyContract$InputText" "value" "I") ∈ wsU := zt2 (i := 32) rfl rfl
theorem wm_2_33 : (Cond.soleField "SupplyContract$InputText" "value") ∈ wsU := zt2 (i := 33) rfl rfl
theorem wm_2_34 : (Cond.lays "SupplyContract$InputText" "SupplyContract$InputText" "error" "I") ∈ wsU := zt2 (i := 34) rfl rfl
theorem wm_2_35 : (Cond.soleField "SupplyContract$InputText" "error") ∈ wsU := zt2 (i := 35) rfl rfl
theorem wm_2_36 : (Cond.lays "SupplyContract$InputText" "SupplyContract$InputText" "errorAt" "I") ∈ wsU := zt2 (i := 36) rfl rfl
theorem wm_2_37 : (Cond.soleField "SupplyContract$InputText" "errorAt") ∈ wsU := zt2 (i := 37) rfl rfl
theorem wm_2_38 : (Cond.superclass "SupplyContract$InputText" "java/lang/Object") ∈ wsU := zt2 (i := 38) rfl rfl
theorem wm_2_39 : (Cond.arrayClass ClassFile.FieldType.byte) ∈ wsU := zt2 (i := 39) rfl rfl
theorem wm_2_40 : (Cond.classLink "SupplyContract$SetupReader" (18 : Nat) "SupplyContract$DemandReader") ∈ wsU := zt2 (i := 40) rfl rfl
theorem wm_2_41 : (Cond.instantiable "SupplyContract$DemandReader" (2 : Nat)) ∈ wsU := zt2 (i := 41) rfl rfl
theorem wm_2_42 : (Cond.methodLinkNest "SupplyContract$SetupReader" (20 : Nat) ({ cls := "SupplyContract$DemandReader", name := "<init>", desc := "()V" } : MethodName) "SupplyContract") ∈ wsU := zt2 (i := 42) rfl rfl
theorem wm_2_43 : (Cond.instanceMethod ({ cls := "SupplyContract$DemandReader", name := "<init>", desc := "()V" } : MethodName)) ∈ wsU := zt2 (i := 43) rfl rfl
theorem wm_2_44 : (Cond.code ({ cls := "SupplyContract$DemandReader", name := "<init>", desc := "()V" } : MethodName) prog_5_method_1_code (1 : Nat) (Option.none : Option ClassFile.FieldType)) ∈ wsU := zt2 (i := 44) rfl rfl
theorem wm_2_45 : (Cond.methodLink "SupplyContract$DemandReader" (3 : Nat) ({ cls := "java/lang/Object", name := "<init>", desc := "()V" } : MethodName)) ∈ wsU := zt2 (i := 45) rfl rfl
theorem wm_2_46 : (Cond.fieldLink "SupplyContract$DemandReader" (9 : Nat) "SupplyContract$DemandReader" "period" "I") ∈ wsU := zt2 (i := 46) rfl rfl
theorem wm_2_47 : (Cond.fieldLinkNest "SupplyContract$SetupReader" (176 : Nat) "SupplyContract$DemandReader" "period" "I" "SupplyContract") ∈ wsU := zt2 (i := 47) rfl rfl
theorem wm_2_48 : (Cond.fieldLink "SupplyContract$DemandReader" (15 : Nat) "SupplyContract$DemandReader" "reserved" "I") ∈ wsU := zt2 (i := 48) rfl rfl
theorem wm_2_49 : (Cond.fieldLinkNest "SupplyContract$SetupReader" (182 : Nat) "SupplyContract$DemandReader" "reserved" "I" "SupplyContract") ∈ wsU := zt2 (i := 49) rfl rfl
theorem wm_2_50 : (Cond.lays "SupplyContract$DemandReader" "SupplyContract$DemandReader" "period" "I") ∈ wsU := zt2 (i := 50) rfl rfl
theorem wm_2_51 : (Cond.soleField "SupplyContract$DemandReader" "period") ∈ wsU := zt2 (i := 51) rfl rfl
theorem wm_2_52 : (Cond.lays "SupplyContract$DemandReader" "SupplyContract$DemandReader" "reserved" "I") ∈ wsU := zt2 (i := 52) rfl rfl
theorem wm_2_53 : (Cond.soleField "SupplyContract$DemandReader" "reserved") ∈ wsU := zt2 (i := 53) rfl rfl
theorem wm_2_54 : (Cond.superclass "SupplyContract$DemandReader" "java/lang/Object") ∈ wsU := zt2 (i := 54) rfl rfl
theorem wm_2_55 : (Cond.classLink "SupplyContract$SetupReader" (25 : Nat) "SupplyContract$Contract") ∈ wsU := zt2 (i := 55) rfl rfl
theorem wm_2_56 : (Cond.methodLinkNest "SupplyContract$SetupReader" (27 : Nat) ({ cls := "SupplyContract$Contract", name := "<init>", desc := "()V" } : MethodName) "SupplyContract") ∈ wsU := zt2 (i := 56) rfl rfl
theorem wm_2_57 : (Cond.fieldLink "SupplyContract$SetupReader" (12 : Nat) "SupplyContract$SetupReader" "in" "LSupplyContract$InputText;") ∈ wsU := zt2 (i := 57) rfl rfl
theorem wm_2_58 : (Cond.fieldLinkNest "SupplyContract" (51 : Nat) "SupplyContract$SetupReader" "in" "LSupplyContract$InputText;" "SupplyContract") ∈ wsU := zt2 (i := 58) rfl rfl
theorem wm_2_59 : (Cond.fieldLink "SupplyContract$SetupReader" (21 : Nat) "SupplyContract$SetupReader" "demand" "LSupplyContract$DemandReader;") ∈ wsU := zt2 (i := 59) rfl rfl
theorem wm_2_60 : (Cond.fieldLink "SupplyContract$SetupReader" (28 : Nat) "SupplyContract$SetupReader" "draft" "LSupplyContract$Contract;") ∈ wsU := zt2 (i := 60) rfl rfl
theorem wm_2_61 : (Cond.fieldLinkNest "SupplyContract" (82 : Nat) "SupplyContract$SetupReader" "draft" "LSupplyContract$Contract;" "SupplyContract") ∈ wsU := zt2 (i := 61) rfl rfl
theorem wm_2_62 : (Cond.fieldLink "SupplyContract$SetupReader" (32 : Nat) "SupplyContract$SetupReader" "seen" "I") ∈ wsU := zt2 (i := 62) rfl rfl
theorem wm_2_63 : (Cond.fieldLink "SupplyContract$SetupReader" (36 : Nat) "SupplyContract$SetupReader" "demandAt" "I") ∈ wsU := zt2 (i := 63) rfl rfl
theorem wm_2_64 : (Cond.laysFinal "SupplyContract$SetupReader" "SupplyContract$SetupReader" "in" "LSupplyContract$InputText;") ∈ wsU := zt2 (i := 64) rfl rfl
theorem wm_2_65 : (Cond.soleField "SupplyContract$SetupReader" "in") ∈ wsU := zt2 (i := 65) rfl rfl
theorem wm_2_66 : (Cond.laysFinal "SupplyContract$SetupReader" "SupplyContract$SetupReader" "demand" "LSupplyContract$DemandReader;") ∈ wsU := zt2 (i := 66) rfl rfl
theorem wm_2_67 : (Cond.soleField "SupplyContract$SetupReader" "demand") ∈ wsU := zt2 (i := 67) rfl rfl
theorem wm_2_68 : (Cond.laysFinal "SupplyContract$SetupReader" "SupplyContract$SetupReader" "draft" "LSupplyContract$Contract;") ∈ wsU := zt2 (i := 68) rfl rfl
theorem wm_2_69 : (Cond.soleField "SupplyContract$SetupReader" "draft") ∈ wsU := zt2 (i := 69) rfl rfl
theorem wm_2_70 : (Cond.lays "SupplyContract$SetupReader" "SupplyContract$SetupReader" "seen" "I") ∈ wsU := zt2 (i := 70) rfl rfl
theorem wm_2_71 : (Cond.soleField "SupplyContract$SetupReader" "seen") ∈ wsU := zt2 (i := 71) rfl rfl
theorem wm_2_72 : (Cond.lays "SupplyContract$SetupReader" "SupplyContract$SetupReader" "demandAt" "I") ∈ wsU := zt2 (i := 72) rfl rfl
theorem wm_2_73 : (Cond.soleField "SupplyContract$SetupReader" "demandAt") ∈ wsU := zt2 (i := 73) rfl rfl
theorem wm_2_74 : (Cond.superclass "SupplyContract$SetupReader" "java/lang/Object") ∈ wsU := zt2 (i := 74) rfl rfl
theorem wm_2_75 : (Cond.classLink "SupplyContract" (34 : Nat) "SupplyContract$WaiverSearch") ∈ wsU := zt2 (i := 75) rfl rfl
theorem wm_2_76 : (Cond.instantiable "SupplyContract$WaiverSearch" (8 : Nat)) ∈ wsU := zt2 (i := 76) rfl rfl
theorem wm_2_77 : (Cond.methodLinkNest "SupplyContract" (36 : Nat) ({ cls := "SupplyContract$WaiverSearch", name := "<init>", desc := "()V" } : MethodName) "SupplyContract") ∈ wsU := zt2 (i := 77) rfl rfl
theorem wm_2_78 : (Cond.instanceMethod ({ cls := "SupplyContract$WaiverSearch", name := "<init>", desc := "()V" } : MethodName)) ∈ wsU := zt2 (i := 78) rfl rfl
theorem wm_2_79 : (Cond.code ({ cls := "SupplyContract$WaiverSearch", name := "<init>", desc := "()V" } : MethodName) prog_10_method_1_code (1 : Nat) (Option.none : Option ClassFile.FieldType)) ∈ wsU := zt2 (i := 79) rfl rfl
theorem wm_2_80 : (Cond.methodLink "SupplyContract$WaiverSearch" (3 : Nat) ({ cls := "java/lang/Object", name := "<init>", desc := "()V" } : MethodName)) ∈ wsU := zt2 (i := 80) rfl rfl
theorem wm_2_81 : (Cond.fieldLink "SupplyContract$WaiverSearch" (9 : Nat) "SupplyContract$WaiverSearch" "candidate" "[I") ∈ wsU := zt2 (i := 81) rfl rfl
theorem wm_2_82 : (Cond.fieldLink "SupplyContract$WaiverSearch" (15 : Nat) "SupplyContract$WaiverSearch" "candidates" "I") ∈ wsU := zt2 (i := 82) rfl rfl
theorem wm_2_83 : (Cond.fieldLink "SupplyContract$WaiverSearch" (19 : Nat) "SupplyContract$WaiverSearch" "limit" "I") ∈ wsU := zt2 (i := 83) rfl rfl
theorem wm_2_84 : (Cond.fieldLink "SupplyContract$WaiverSearch" (22 : Nat) "SupplyContract$WaiverSearch" "gap" "I") ∈ wsU := zt2 (i := 84) rfl rfl
theorem wm_2_85 : (Cond.fieldLink "SupplyContract$WaiverSearch" (25 : Nat) "SupplyContract$WaiverSearch" "chosen" "[I") ∈ wsU := zt2 (i := 85) rfl rfl
theorem wm_2_86 : (Cond.fieldLink "SupplyContract$WaiverSearch" (28 : Nat) "SupplyContract$WaiverSearch" "best" "[I") ∈ wsU := zt2 (i := 86) rfl rfl
theorem wm_2_87 : (Cond.fieldLink "SupplyContract$WaiverSearch" (31 : Nat) "SupplyContract$WaiverSearch" "bestSize" "I") ∈ wsU := zt2 (i := 87) rfl rfl
theorem wm_2_88 : (Cond.fieldLink "SupplyContract$WaiverSearch" (34 : Nat) "SupplyContract$WaiverSearch" "bestSum" "I") ∈ wsU := zt2 (i := 88) rfl rfl
theorem wm_2_89 : (Cond.fieldLinkNest "SupplyContract" (190 : Nat) "SupplyContract$WaiverSearch" "bestSum" "I" "SupplyContract") ∈ wsU := zt2 (i := 89) rfl rfl
theorem wm_2_90 : (Cond.laysFinal "SupplyContract$WaiverSearch" "SupplyContract$WaiverSearch" "candidate" "[I") ∈ wsU := zt2 (i := 90) rfl rfl
theorem wm_2_91 : (Cond.soleField "SupplyContract$WaiverSearch" "candidate") ∈ wsU := zt2 (i := 91) rfl rfl
theorem wm_2_92 : (Cond.lays "SupplyContract$WaiverSearch" "SupplyContract$WaiverSearch" "candidates" "I") ∈ wsU := zt2 (i := 92) rfl rfl
theorem wm_2_93 : (Cond.soleField "SupplyContract$WaiverSearch" "candidates") ∈ wsU := zt2 (i := 93) rfl rfl
theorem wm_2_94 : (Cond.lays "SupplyContract$WaiverSearch" "SupplyContract$WaiverSearch" "limit" "I") ∈ wsU := zt2 (i := 94) rfl rfl
theorem wm_2_95 : (Cond.soleField "SupplyContract$WaiverSearch" "limit") ∈ wsU := zt2 (i := 95) rfl rfl
theorem wm_2_96 : (Cond.lays "SupplyContract$WaiverSearch" "SupplyContract$WaiverSearch" "gap" "I") ∈ wsU := zt2 (i := 96) rfl rfl
theorem wm_2_97 : (Cond.soleField "SupplyContract$WaiverSearch" "gap") ∈ wsU := zt2 (i := 97) rfl rfl
theorem wm_2_98 : (Cond.laysFinal "SupplyContract$WaiverSearch" "SupplyContract$WaiverSearch" "chosen" "[I") ∈ wsU := zt2 (i := 98) rfl rfl
theorem wm_2_99 : (Cond.soleField "SupplyContract$WaiverSearch" "chosen") ∈ wsU := zt2 (i := 99) rfl rfl
theorem wm_2_100 : (Cond.laysFinal "SupplyContract$WaiverSearch" "SupplyContract$WaiverSearch" "best" "[I") ∈ wsU := zt2 (i := 100) rfl rfl
theorem wm_2_101 : (Cond.soleField "SupplyContract$WaiverSearch" "best") ∈ wsU := zt2 (i := 101) rfl rfl
theorem wm_2_102 : (Cond.lays "SupplyContract$WaiverSearch" "SupplyContract$WaiverSearch" "bestSize" "I") ∈ wsU := zt2 (i := 102) rfl rfl
theorem wm_2_103 : (Cond.soleField "SupplyContract$WaiverSearch" "bestSize") ∈ wsU := zt2 (i := 103) rfl rfl
theorem wm_2_104 : (Cond.lays "SupplyContract$WaiverSearch" "SupplyContract$WaiverSearch" "bestSum" "I") ∈ wsU := zt2 (i := 104) rfl rfl
theorem wm_2_105 : (Cond.soleField "SupplyContract$WaiverSearch" "bestSum") ∈ wsU := zt2 (i := 105) rfl rfl
theorem wm_2_106 : (Cond.superclass "SupplyContract$WaiverSearch" "java/lang/Object") ∈ wsU := zt2 (i := 106) rfl rfl
theorem wm_2_107 : (Cond.classLink "SupplyContract" (41 : Nat) "SupplyContract$Accounts") ∈ wsU := zt2 (i := 107) rfl rfl
theorem wm_2_108 : (Cond.methodLinkNest "SupplyContract" (43 : Nat) ({ cls := "SupplyContract$Accounts", name := "<init>", desc := "()V" } : MethodName) "SupplyContract") ∈ wsU := zt2 (i := 108) rfl rfl
theorem wm_2_109 : (Cond.fieldLink "SupplyContract" (10 : Nat) "SupplyContract" "now" "LSupplyContract$Contract;") ∈ wsU := zt2 (i := 109) rfl rfl
theorem wm_2_110 : (Cond.fieldLink "SupplyContract" (19 : Nat) "SupplyContract" "history" "LSupplyContract$History;") ∈ wsU := zt2 (i := 110) rfl rfl
theorem wm_2_111 : (Cond.fieldLink "SupplyContract" (26 : Nat) "SupplyContract" "setup" "LSupplyContract$SetupReader;") ∈ wsU := zt2 (i := 111) rfl rfl
theorem wm_2_112 : (Cond.fieldLink "SupplyContract" (30 : Nat) "SupplyContract" "lastErrorOffset" "I") ∈ wsU := zt2 (i := 112) rfl rfl
theorem wm_2_113 : (Cond.fieldLink "SupplyContract" (37 : Nat) "SupplyContract" "waiverSearch" "LSupplyContract$WaiverSearch;") ∈ wsU := zt2 (i := 113) rfl rfl
theorem wm_2_114 : (Cond.fieldLink "SupplyContract" (44 : Nat) "SupplyContract" "start" "LSupplyContract$Accounts;") ∈ wsU := zt2 (i := 114) rfl rfl
theorem wm_2_115 : (Cond.fieldLink "SupplyContract" (48 : Nat) "SupplyContract" "trial" "LSupplyContract$Accounts;") ∈ wsU := zt2 (i := 115) rfl rfl
theorem wm_2_116 : (Cond.laysFinal "SupplyContract" "SupplyContract" "now" "LSupplyContract$Contract;") ∈ wsU := zt2 (i := 116) rfl rfl
theorem wm_2_117 : (Cond.soleField "SupplyContract" "now") ∈ wsU := zt2 (i := 117) rfl rfl
theorem wm_2_118 : (Cond.laysFinal "SupplyContract" "SupplyContract" "history" "LSupplyContract$History;") ∈ wsU := zt2 (i := 118) rfl rfl
theorem wm_2_119 : (Cond.soleField "SupplyContract" "history") ∈ wsU := zt2 (i := 119) rfl rfl
theorem wm_2_120 : (Cond.laysFinal "SupplyContract" "SupplyContract" "setup" "LSupplyContract$SetupReader;") ∈ wsU := zt2 (i := 120) rfl rfl
theorem wm_2_121 : (Cond.soleField "SupplyContract" "setup") ∈ wsU := zt2 (i := 121) rfl rfl
theorem wm_2_122 : (Cond.lays "SupplyContract" "SupplyContract" "lastErrorOffset" "I") ∈ wsU := zt2 (i := 122) rfl rfl
theorem wm_2_123 : (Cond.soleField "SupplyContract" "lastErrorOffset") ∈ wsU := zt2 (i := 123) rfl rfl
theorem wm_2_124 : (Cond.laysFinal "SupplyContract" "SupplyContract" "waiverSearch" "LSupplyContract$WaiverSearch;") ∈ wsU := zt2 (i := 124) rfl rfl
theorem wm_2_125 : (Cond.soleField "SupplyContract" "waiverSearch") ∈ wsU := zt2 (i := 125) rfl rfl
theorem wm_2_126 : (Cond.laysFinal "SupplyContract" "SupplyContract" "start" "LSupplyContract$Accounts;") ∈ wsU := zt2 (i := 126) rfl rfl
theorem wm_2_127 : (Cond.soleField "SupplyContract" "start") ∈ wsU := zt2 (i := 127) rfl rfl
theorem wm_2_128 : (Cond.laysFinal "SupplyContract" "SupplyContract" "trial" "LSupplyContract$Accounts;") ∈ wsU := zt2 (i := 128) rfl rfl
theorem wm_2_129 : (Cond.soleField "SupplyContract" "trial") ∈ wsU := zt2 (i := 129) rfl rfl
theorem wm_2_130 : (Cond.superclass "SupplyContract" "java/lang/Object") ∈ wsU := zt2 (i := 130) rfl rfl
theorem wm_2_131 : (Cond.methodLink "SupplyContractLaw" (88 : Nat) ({ cls := "SupplyContract", name := "append", desc := "(IIIII)I" } : MethodName)) ∈ wsU := zt2 (i := 131) rfl rfl
theorem wm_2_132 : (Cond.instanceMethod ({ cls := "SupplyContract", name := "append", desc := "(IIIII)I" } : MethodName)) ∈ wsU := zt2 (i := 132) rfl rfl
theorem wm_2_133 : (Cond.selects "SupplyContract" ({ cls := "SupplyContract", name := "append", desc := "(IIIII)I" } : MethodName) ({ cls := "SupplyContract", name := "append", desc := "(IIIII)I" } : MethodName)) ∈ wsU := zt2 (i := 133) rfl rfl
theorem wm_2_134 : (Cond.code ({ cls := "SupplyContract", name := "append", desc := "(IIIII)I" } : MethodName) prog_1_method_2_code (7 : Nat) (Option.some ClassFile.FieldType.int)) ∈ wsU := zt2 (i := 134) rfl rfl
theorem wm_2_135 : (Cond.methodLinkNest "SupplyContract" (60 : Nat) ({ cls := "SupplyContract$InputText", name := "addWord", desc := "(I)V" } : MethodName) "SupplyContract") ∈ wsU := zt2 (i := 135) rfl rfl
theorem wm_2_137 : (Cond.instanceMethod ({ cls := "SupplyContract$InputText", name := "addWord", desc := "(I)V" } : MethodName)) ∈ wsU := zt2 (i := 137) rfl rfl
theorem wm_2_138 : (Cond.code ({ cls := "SupplyContract$InputText", name := "addWord", desc := "(I)V" } : MethodName) prog_7_method_2_code (3 : Nat) (Option.none : Option ClassFile.FieldType)) ∈ wsU := zt2 (i := 138) rfl rfl
theorem wm_2_139 : (Cond.methodLink "SupplyContractLaw" (103 : Nat) ({ cls := "SupplyContract", name := "errorOffset", desc := "()I" } : MethodName)) ∈ wsU := zt2 (i := 139) rfl rfl
theorem wm_2_140 : (Cond.instanceMethod ({ cls := "SupplyContract", name := "errorOffset", desc := "()I" } : MethodName)) ∈ wsU := zt2 (i := 140) rfl rfl
theorem wm_2_141 : (Cond.selects "SupplyContract" ({ cls := "SupplyContract", name := "errorOffset", desc := "()I" } : MethodName) ({ cls := "SupplyContract", name := "errorOffset", desc := "()I" } : MethodName)) ∈ wsU := zt2 (i := 141) rfl rfl
theorem wm_2_142 : (Cond.code ({ cls := "SupplyContract", name := "errorOffset", desc := "()I" } : MethodName) prog_1_method_4_code (1 : Nat) (Option.some ClassFile.FieldType.int)) ∈ wsU := zt2 (i := 142) rfl rfl
theorem wm_2_143 : (Cond.methodLink "SupplyContractLaw" (107 : Nat) ({ cls := "SupplyContract", name := "periodCount", desc := "()I" } : MethodName)) ∈ wsU := zt2 (i := 143) rfl rfl
theorem wm_2_144 : (Cond.instanceMethod ({ cls := "SupplyContract", name := "periodCount", desc := "()I" } : MethodName)) ∈ wsU := zt2 (i := 144) rfl rfl
theorem wm_2_145 : (Cond.selects "SupplyContract" ({ cls := "SupplyContract", name := "periodCount", desc := "()I" } : MethodName) ({ cls := "SupplyContract", name := "periodCount", desc := "()I" } : MethodName)) ∈ wsU := zt2 (i := 145) rfl rfl
theorem wm_2_146 : (Cond.code ({ cls := "SupplyContract", name := "periodCount", desc := "()I" } : MethodName) prog_1_method_5_code (1 : Nat) (Option.some ClassFile.FieldType.int)) ∈ wsU := zt2 (i := 146) rfl rfl
theorem wm_2_147 : (Cond.methodLink "SupplyContractLaw" (111 : Nat) ({ cls := "SupplyContract", name := "clock", desc := "()I" } : MethodName)) ∈ wsU := zt2 (i := 147) rfl rfl
theorem wm_2_148 : (Cond.instanceMethod ({ cls := "SupplyContract", name := "clock", desc := "()I" } : MethodName)) ∈ wsU := zt2 (i := 148) rfl rfl
theorem wm_2_149 : (Cond.selects "SupplyContract" ({ cls := "SupplyContract", name := "clock", desc := "()I" } : MethodName) ({ cls := "SupplyContract", name := "clock", desc := "()I" } : MethodName)) ∈ wsU := zt2 (i := 149) rfl rfl
theorem wm_2_150 : (Cond.code ({ cls := "SupplyContract", name := "clock", desc := "()I" } : MethodName) prog_1_method_6_code (1 : Nat) (Option.some ClassFile.FieldType.int)) ∈ wsU := zt2 (i := 150) rfl rfl
theorem wm_2_151 : (Cond.methodLink "SupplyContractLaw" (133 : Nat) ({ cls := "SupplyContract", name := "balance", desc := "()J" } : MethodName)) ∈ wsU := zt2 (i := 151) rfl rfl
theorem wm_2_152 : (Cond.instanceMethod ({ cls := "SupplyContract", name := "balance", desc := "()J" } : MethodName)) ∈ wsU := zt2 (i := 152) rfl rfl
theorem wm_2_153 : (Cond.selects "SupplyContract" ({ cls := "SupplyContract", name := "balance", desc := "()J" } : MethodName) ({ cls := "SupplyContract", name := "balance", desc := "()J" } : MethodName)) ∈ wsU := zt2 (i := 153) rfl rfl
theorem wm_2_154 : (Cond.code ({ cls := "SupplyContract", name := "balance", desc := "()J" } : MethodName) prog_1_method_13_code (1 : Nat) (Option.some ClassFile.FieldType.long)) ∈ wsU := zt2 (i := 154) rfl rfl
theorem wm_2_155 : (Cond.methodLinkNest "SupplyContract" (126 : Nat) ({ cls := "SupplyContract$Accounts", name := "invoiceSum", desc := "(I)J" } : MethodName) "SupplyContract") ∈ wsU := zt2 (i := 155) rfl rfl
theorem wm_2_157 : (Cond.instanceMethod ({ cls := "SupplyContract$Accounts", name := "invoiceSum", desc := "(I)J" } : MethodName)) ∈ wsU := zt2 (i := 157) rfl rfl
theorem wm_2_158 : (Cond.code ({ cls := "SupplyContract$Accounts", name := "invoiceSum", desc := "(I)J" } : MethodName) prog_2_method_12_code (5 : Nat) (Option.some ClassFile.FieldType.long)) ∈ wsU := zt2 (i := 158) rfl rfl
theorem wm_2_159 : (Cond.methodLinkNest "SupplyContract" (134 : Nat) ({ cls := "SupplyContract$Breaches", name := "unwaivedSum", desc := "()J" } : MethodName) "SupplyContract") ∈ wsU := zt2 (i := 159) rfl rfl
theorem wm_2_161 : (Cond.instanceMethod ({ cls := "SupplyContract$Breaches", name := "unwaivedSum", desc := "()J" } : MethodName)) ∈ wsU := zt2 (i := 161) rfl rfl
theorem wm_2_162 : (Cond.code ({ cls := "SupplyContract$Breaches", name := "unwaivedSum", desc := "()J" } : MethodName) prog_3_method_8_code (4 : Nat) (Option.some ClassFile.FieldType.long)) ∈ wsU := zt2 (i := 162) rfl rfl
theorem wm_2_163 : (Cond.methodLink "SupplyContractLaw" (148 : Nat) ({ cls := "SupplyContract", name := "breachCount", desc := "()I" } : MethodName)) ∈ wsU := zt2 (i := 163) rfl rfl
theorem wm_2_164 : (Cond.instanceMethod ({ cls := "SupplyContract", name := "breachCount", desc := "()I" } : MethodName)) ∈ wsU := zt2 (i := 164) rfl rfl
theorem wm_2_165 : (Cond.selects "SupplyContract" ({ cls := "SupplyContract", name := "breachCount", desc := "()I" } : MethodName) ({ cls := "SupplyContract", name := "breachCount", desc := "()I" } : MethodName)) ∈ wsU := zt2 (i := 165) rfl rfl
theorem wm_2_166 : (Cond.code ({ cls := "SupplyContract", name := "breachCount", desc := "()I" } : MethodName) prog_1_method_17_code (1 : Nat) (Option.some ClassFile.FieldType.int)) ∈ wsU := zt2 (i := 166) rfl rfl
theorem wm_2_167 : (Cond.methodLink "SupplyContractLaw" (152 : Nat) ({ cls := "SupplyContract", name := "allBreaches", desc := "()I" } : MethodName)) ∈ wsU := zt2 (i := 167) rfl rfl
theorem wm_2_168 : (Cond.instanceMethod ({ cls := "SupplyContract", name := "allBreaches", desc := "()I" } : MethodName)) ∈ wsU := zt2 (i := 168) rfl rfl
theorem wm_2_169 : (Cond.selects "SupplyContract" ({ cls := "SupplyContract", name := "allBreaches", desc := "()I" } : MethodName) ({ cls := "SupplyContract", name := "allBreaches", desc := "()I" } : MethodName)) ∈ wsU := zt2 (i := 169) rfl rfl
theorem wm_2_170 : (Cond.code ({ cls := "SupplyContract", name := "allBreaches", desc := "()I" } : MethodName) prog_1_method_18_code (1 : Nat) (Option.some ClassFile.FieldType.int)) ∈ wsU := zt2 (i := 170) rfl rfl
theorem wm_2_171 : (Cond.methodLink "SupplyContractLaw" (168 : Nat) ({ cls := "SupplyContract", name := "waiversLeft", desc := "()I" } : MethodName)) ∈ wsU := zt2 (i := 171) rfl rfl
theorem wm_2_172 : (Cond.instanceMethod ({ cls := "SupplyContract", name := "waiversLeft", desc := "()I" } : MethodName)) ∈ wsU := zt2 (i := 172) rfl rfl
theorem wm_2_173 : (Cond.selects "SupplyContract" ({ cls := "SupplyContract", name := "waiversLeft", desc := "()I" } : MethodName) ({ cls := "SupplyContract", name := "waiversLeft", desc := "()I" } : MethodName)) ∈ wsU := zt2 (i := 173) rfl rfl
theorem wm_2_174 : (Cond.code ({ cls := "SupplyContract", name := "waiversLeft", desc := "()I" } : MethodName) prog_1_method_23_code (1 : Nat) (Option.some ClassFile.FieldType.int)) ∈ wsU := zt2 (i := 174) rfl rfl
theorem wm_2_175 : (Cond.methodLink "SupplyContractLaw" (172 : Nat) ({ cls := "SupplyContract", name := "bestWaiving", desc := "()I" } : MethodName)) ∈ wsU := zt2 (i := 175) rfl rfl
theorem wm_2_176 : (Cond.instanceMethod ({ cls := "SupplyContract", name := "bestWaiving", desc := "()I" } : MethodName)) ∈ wsU := zt2 (i := 176) rfl rfl
theorem wm_2_177 : (Cond.selects "SupplyContract" ({ cls := "SupplyContract", name := "bestWaiving", desc := "()I" } : MethodName) ({ cls := "SupplyContract", name := "bestWaiving", desc := "()I" } : MethodName)) ∈ wsU := zt2 (i := 177) rfl rfl
theorem wm_2_178 : (Cond.code ({ cls := "SupplyContract", name := "bestWaiving", desc := "()I" } : MethodName) prog_1_method_24_code (1 : Nat) (Option.some ClassFile.FieldType.int)) ∈ wsU := zt2 (i := 178) rfl rfl
theorem wm_2_179 : (Cond.methodLinkNest "SupplyContract" (186 : Nat) ({ cls := "SupplyContract$WaiverSearch", name := "run", desc := "(LSupplyContract$Terms;LSupplyContract$Breaches;)V" } : MethodName) "SupplyContract") ∈ wsU := zt2 (i := 179) rfl rfl
theorem wm_2_181 : (Cond.instanceMethod ({ cls := "SupplyContract$WaiverSearch", name := "run", desc := "(LSupplyContract$Terms;LSupplyContract$Breaches;)V" } : MethodName)) ∈ wsU := zt2 (i := 181) rfl rfl
theorem wm_2_182 : (Cond.code ({ cls := "SupplyContract$WaiverSearch", name := "run", desc := "(LSupplyContract$Terms;LSupplyContract$Breaches;)V" } : MethodName) prog_10_method_2_code (4 : Nat) (Option.none : Option ClassFile.FieldType)) ∈ wsU := zt2 (i := 182) rfl rfl
theorem wm_2_183 : (Cond.methodLink "SupplyContract$WaiverSearch" (47 : Nat) ({ cls := "java/lang/Math", name := "min", desc := "(II)I" } : MethodName)) ∈ wsU := zt2 (i := 183) rfl rfl
theorem wm_2_184 : (Cond.static ({ cls := "java/lang/Math", name := "min", desc := "(II)I" } : MethodName)) ∈ wsU := zt2 (i := 184) rfl rfl
theorem wm_2_185 : (Cond.code ({ cls := "java/lang/Math", name := "min", desc := "(II)I" } : MethodName) prog_17_method_69_code (2 : Nat) (Option.some ClassFile.FieldType.int)) ∈ wsU := zt2 (i := 185) rfl rfl
theorem wm_2_186 : (Cond.methodLinkNest "SupplyContract$WaiverSearch" (60 : Nat) ({ cls := "SupplyContract$Breaches", name := "canBeWaived", desc := "(ILSupplyContract$Terms;)Z" } : MethodName) "SupplyContract") ∈ wsU := zt2 (i := 186) rfl rfl
theorem wm_2_188 : (Cond.instanceMethod ({ cls := "SupplyContract$Breaches", name := "canBeWaived", desc := "(ILSupplyContract$Terms;)Z" } : MethodName)) ∈ wsU := zt2 (i := 188) rfl rfl
theorem wm_2_189 : (Cond.code ({ cls := "SupplyContract$Breaches", name := "canBeWaived", desc := "(ILSupplyContract$Terms;)Z" } : MethodName) prog_3_method_4_code (3 : Nat) (Option.some ClassFile.FieldType.boolean)) ∈ wsU := zt2 (i := 189) rfl rfl
theorem wm_2_190 : (Cond.methodLink "SupplyContract$Breaches" (49 : Nat) ({ cls := "SupplyContract$Breaches", name := "keepsGap", desc := "(II)Z" } : MethodName)) ∈ wsU := zt2 (i := 190) rfl rfl
theorem wm_2_192 : (Cond.instanceMethod ({ cls := "SupplyContract$Breaches", name := "keepsGap", desc := "(II)Z" } : MethodName)) ∈ wsU := zt2 (i := 192) rfl rfl
theorem wm_2_193 : (Cond.code ({ cls := "SupplyContract$Breaches", name := "keepsGap", desc := "(II)Z" } : MethodName) prog_3_method_5_code (4 : Nat) (Option.some ClassFile.FieldType.boolean)) ∈ wsU := zt2 (i := 193) rfl rfl
theorem wm_2_194 : (Cond.methodLink "SupplyContract$Breaches" (53 : Nat) ({ cls := "SupplyContract$Breaches", name := "distance", desc := "(II)I" } : MethodName)) ∈ wsU := zt2 (i := 194) rfl rfl
theorem wm_2_196 : (Cond.instanceMethod ({ cls := "SupplyContract$Breaches", name := "distance", desc := "(II)I" } : MethodName)) ∈ wsU := zt2 (i := 196) rfl rfl
theorem wm_2_197 : (Cond.code ({ cls := "SupplyContract$Breaches", name := "distance", desc := "(II)I" } : MethodName) prog_3_method_6_code (3 : Nat) (Option.some ClassFile.FieldType.int)) ∈ wsU := zt2 (i := 197) rfl rfl
theorem wm_2_198 : (Cond.methodLink "SupplyContract$Breaches" (57 : Nat) ({ cls := "java/lang/Math", name := "abs", desc := "(I)I" } : MethodName)) ∈ wsU := zt2 (i := 198) rfl rfl
theorem wm_2_199 : (Cond.static ({ cls := "java/lang/Math", name := "abs", desc := "(I)I" } : MethodName)) ∈ wsU := zt2 (i := 199) rfl rfl
theorem wm_2_200 : (Cond.code ({ cls := "java/lang/Math", name := "abs", desc := "(I)I" } : MethodName) prog_17_method_59_code (1 : Nat) (Option.some ClassFile.FieldType.int)) ∈ wsU := zt2 (i := 200) rfl rfl
theorem wm_2_201 : (Cond.methodLink "SupplyContract$WaiverSearch" (64 : Nat) ({ cls := "SupplyContract$WaiverSearch", name := "extend", desc := "(LSupplyContract$Breaches;III)V" } : MethodName)) ∈ wsU := zt2 (i := 201) rfl rfl
theorem wm_2_203 : (Cond.instanceMethod ({ cls := "SupplyContract$WaiverSearch", name := "extend", desc := "(LSupplyContract$Breaches;III)V" } : MethodName)) ∈ wsU := zt2 (i := 203) rfl rfl
theorem wm_2_204 : (Cond.code ({ cls := "SupplyContract$WaiverSearch", name := "extend", desc := "(LSupplyContract$Breaches;III)V" } : MethodName) prog_10_method_3_code (6 : Nat) (Option.none : Option ClassFile.FieldType)) ∈ wsU := zt2 (i := 204) rfl rfl
theorem wm_2_205 : (Cond.methodLink "SupplyContract$WaiverSearch" (68 : Nat) ({ cls := "java/lang/System", name := "arraycopy", desc := "(Ljava/lang/Object;ILjava/lang/Object;II)V" } : MethodName)) ∈ wsU := zt2 (i := 205) rfl rfl
theorem wm_2_206 : (Cond.static ({ cls := "java/lang/System", name := "arraycopy", desc := "(Ljava/lang/Object;ILjava/lang/Object;II)V" } : MethodName)) ∈ wsU := zt2 (i := 206) rfl rfl
theorem wm_2_207 : (Cond.native ({ cls := "java/lang/System", name := "arraycopy", desc := "(Ljava/lang/Object;ILjava/lang/Object;II)V" } : MethodName)) ∈ wsU := zt2 (i := 207) rfl rfl
theorem wm_2_208 : (Cond.methodLink "SupplyContract$WaiverSearch" (74 : Nat) ({ cls := "SupplyContract$WaiverSearch", name := "fits", desc := "(LSupplyContract$Breaches;II)Z" } : MethodName)) ∈ wsU := zt2 (i := 208) rfl rfl
theorem wm_2_210 : (Cond.instanceMethod ({ cls := "SupplyContract$WaiverSearch", name := "fits", desc := "(LSupplyContract$Breaches;II)Z" } : MethodName)) ∈ wsU := zt2 (i := 210) rfl rfl
theorem wm_2_211 : (Cond.code ({ cls := "SupplyContract$WaiverSearch", name := "fits", desc := "(LSupplyContract$Breaches;II)Z" } : MethodName) prog_10_method_4_code (5 : Nat) (Option.some ClassFile.FieldType.boolean)) ∈ wsU := zt2 (i := 211) rfl rfl
theorem wm_2_212 : (Cond.methodLinkNest "SupplyContract$WaiverSearch" (78 : Nat) ({ cls := "SupplyContract$Breaches", name := "distance", desc := "(II)I" } : MethodName) "SupplyContract") ∈ wsU := zt2 (i := 212) rfl rfl
theorem wm_2_213 : (Cond.methodLink "SupplyContractLaw" (179 : Nat) ({ cls := "SupplyContract", name := "projected", desc := "()J" } : MethodName)) ∈ wsU := zt2 (i := 213) rfl rfl
theorem wm_2_214 : (Cond.instanceMethod ({ cls := "SupplyContract", name := "projected", desc := "()J" } : MethodName)) ∈ wsU := zt2 (i := 214) rfl rfl
theorem wm_2_215 : (Cond.selects "SupplyContract" ({ cls := "SupplyContract", name := "projected", desc := "()J" } : MethodName) ({ cls := "SupplyContract", name := "projected", desc := "()J" } : MethodName)) ∈ wsU := zt2 (i := 215) rfl rfl
theorem wm_2_216 : (Cond.code ({ cls := "SupplyContract", name := "projected", desc := "()J" } : MethodName) prog_1_method_26_code (1 : Nat) (Option.some ClassFile.FieldType.long)) ∈ wsU := zt2 (i := 216) rfl rfl
theorem wm_2_217 : (Cond.methodLinkNest "SupplyContract" (198 : Nat) ({ cls := "SupplyContract$Accounts", name := "copyFrom", desc := "(LSupplyContract$Accounts;)V" } : MethodName) "SupplyContract") ∈ wsU := zt2 (i := 217) rfl rfl
theorem wm_2_219 : (Cond.instanceMethod ({ cls := "SupplyContract$Accounts", name := "copyFrom", desc := "(LSupplyContract$Accounts;)V" } : MethodName)) ∈ wsU := zt2 (i := 219) rfl rfl
theorem wm_2_220 : (Cond.code ({ cls := "SupplyContract$Accounts", name := "copyFrom", desc := "(LSupplyContract$Accounts;)V" } : MethodName) prog_2_method_3_code (2 : Nat) (Option.none : Option ClassFile.FieldType)) ∈ wsU := zt2 (i := 220) rfl rfl
theorem wm_2_221 : (Cond.methodLink "SupplyContract$Accounts" (44 : Nat) ({ cls := "java/lang/System", name := "arraycopy", desc := "(Ljava/lang/Object;ILjava/lang/Object;II)V" } : MethodName)) ∈ wsU := zt2 (i := 221) rfl rfl
theorem wm_2_222 : (Cond.methodLinkNest "SupplyContract" (201 : Nat) ({ cls := "SupplyContract$Accounts", name := "closeRest", desc := "(LSupplyContract$Terms;)J" } : MethodName) "SupplyContract") ∈ wsU := zt2 (i := 222) rfl rfl
theorem wm_2_224 : (Cond.instanceMethod ({ cls := "SupplyContract$Accounts", name := "closeRest", desc := "(LSupplyContract$Terms;)J" } : MethodName)) ∈ wsU := zt2 (i := 224) rfl rfl
theorem wm_2_225 : (Cond.code ({ cls := "SupplyContract$Accounts", name := "closeRest", desc := "(LSupplyContract$Terms;)J" } : MethodName) prog_2_method_11_code (5 : Nat) (Option.some ClassFile.FieldType.long)) ∈ wsU := zt2 (i := 225) rfl rfl
theorem wm_2_226 : (Cond.methodLink "SupplyContract$Accounts" (102 : Nat) ({ cls := "SupplyContract$Accounts", name := "closePeriod", desc := "(LSupplyContract$Terms;)J" } : MethodName)) ∈ wsU := zt2 (i := 226) rfl rfl
theorem wm_2_228 : (Cond.instanceMethod ({ cls := "SupplyContract$Accounts", name := "closePeriod", desc := "(LSupplyContract$Terms;)J" } : MethodName)) ∈ wsU := zt2 (i := 228) rfl rfl
theorem wm_2_229 : (Cond.code ({ cls := "SupplyContract$Accounts", name := "closePeriod", desc := "(LSupplyContract$Terms;)J" } : MethodName) prog_2_method_6_code (8 : Nat) (Option.some ClassFile.FieldType.long)) ∈ wsU := zt2 (i := 229) rfl rfl
theorem wm_2_230 : (Cond.methodLink "SupplyContract$Accounts" (50 : Nat) ({ cls := "SupplyContract$Accounts", name := "placeOrder", desc := "(I)V" } : MethodName)) ∈ wsU := zt2 (i := 230) rfl rfl
theorem wm_2_232 : (Cond.instanceMethod ({ cls := "SupplyContract$Accounts", name := "placeOrder", desc := "(I)V" } : MethodName)) ∈ wsU := zt2 (i := 232) rfl rfl
theorem wm_2_233 : (Cond.code ({ cls := "SupplyContract$Accounts", name := "placeOrder", desc := "(I)V" } : MethodName) prog_2_method_4_code (2 : Nat) (Option.none : Option ClassFile.FieldType)) ∈ wsU := zt2 (i := 233) rfl rfl
theorem wm_2_234 : (Cond.methodLink "SupplyContract$Accounts" (59 : Nat) ({ cls := "SupplyContract$Accounts", name := "deliverReserved", desc := "(I)I" } : MethodName)) ∈ wsU := zt2 (i := 234) rfl rfl
theorem wm_2_236 : (Cond.instanceMethod ({ cls := "SupplyContract$Accounts", name := "deliverReserved", desc := "(I)I" } : MethodName)) ∈ wsU := zt2 (i := 236) rfl rfl
theorem wm_2_237 : (Cond.code ({ cls := "SupplyContract$Accounts", name := "deliverReserved", desc := "(I)I" } : MethodName) prog_2_method_7_code (5 : Nat) (Option.some ClassFile.FieldType.int)) ∈ wsU := zt2 (i := 237) rfl rfl
theorem wm_2_238 : (Cond.methodLink "SupplyContract$Accounts" (82 : Nat) ({ cls := "java/lang/Math", name := "max", desc := "(II)I" } : MethodName)) ∈ wsU := zt2 (i := 238) rfl rfl
theorem wm_2_239 : (Cond.static ({ cls := "java/lang/Math", name := "max", desc := "(II)I" } : MethodName)) ∈ wsU := zt2 (i := 239) rfl rfl
theorem wm_3_0 : (Cond.code ({ cls := "java/lang/Math", name := "max", desc := "(II)I" } : MethodName) prog_17_method_65_code (2 : Nat) (Option.some ClassFile.FieldType.int)) ∈ wsU := zt3 (i := 0) rfl rfl
theorem wm_3_1 : (Cond.methodLink "SupplyContract$Accounts" (99 : Nat) ({ cls := "java/lang/Math", name := "min", desc := "(II)I" } : MethodName)) ∈ wsU := zt3 (i := 1) rfl rfl
theorem wm_3_2 : (Cond.methodLink "SupplyContract$Accounts" (66 : Nat) ({ cls := "SupplyContract$Accounts", name := "deliverSpot", desc := "(II)I" } : MethodName)) ∈ wsU := zt3 (i := 2) rfl rfl
theorem wm_3_4 : (Cond.instanceMethod ({ cls := "SupplyContract$Accounts", name := "deliverSpot", desc := "(II)I" } : MethodName)) ∈ wsU := zt3 (i := 4) rfl rfl
theorem wm_3_5 : (Cond.code ({ cls := "SupplyContract$Accounts", name := "deliverSpot", desc := "(II)I" } : MethodName) prog_2_method_8_code (4 : Nat) (Option.some ClassFile.FieldType.int)) ∈ wsU := zt3 (i := 5) rfl rfl
theorem wm_3_6 : (Cond.methodLink "SupplyContract$Accounts" (70 : Nat) ({ cls := "SupplyContract$Accounts", name := "missOpen", desc := "(I)I" } : MethodName)) ∈ wsU := zt3 (i := 6) rfl rfl
theorem wm_3_8 : (Cond.instanceMethod ({ cls := "SupplyContract$Accounts", name := "missOpen", desc := "(I)I" } : MethodName)) ∈ wsU := zt3 (i := 8) rfl rfl
theorem wm_3_9 : (Cond.code ({ cls := "SupplyContract$Accounts", name := "missOpen", desc := "(I)I" } : MethodName) prog_2_method_9_code (3 : Nat) (Option.some ClassFile.FieldType.int)) ∈ wsU := zt3 (i := 9) rfl rfl
theorem wm_3_10 : (Cond.methodLink "SupplyContract$Accounts" (76 : Nat) ({ cls := "SupplyContract$Accounts", name := "missAllOpen", desc := "(I)I" } : MethodName)) ∈ wsU := zt3 (i := 10) rfl rfl
theorem wm_3_12 : (Cond.instanceMethod ({ cls := "SupplyContract$Accounts", name := "missAllOpen", desc := "(I)I" } : MethodName)) ∈ wsU := zt3 (i := 12) rfl rfl
theorem wm_3_13 : (Cond.code ({ cls := "SupplyContract$Accounts", name := "missAllOpen", desc := "(I)I" } : MethodName) prog_2_method_10_code (4 : Nat) (Option.some ClassFile.FieldType.int)) ∈ wsU := zt3 (i := 13) rfl rfl
theorem wm_3_14 : (Cond.methodLink "SupplyContractLaw" (202 : Nat) ({ cls := "SupplyContract", name := "undo", desc := "()I" } : MethodName)) ∈ wsU := zt3 (i := 14) rfl rfl
theorem wm_3_15 : (Cond.instanceMethod ({ cls := "SupplyContract", name := "undo", desc := "()I" } : MethodName)) ∈ wsU := zt3 (i := 15) rfl rfl
theorem wm_3_16 : (Cond.selects "SupplyContract" ({ cls := "SupplyContract", name := "undo", desc := "()I" } : MethodName) ({ cls := "SupplyContract", name := "undo", desc := "()I" } : MethodName)) ∈ wsU := zt3 (i := 16) rfl rfl
theorem wm_3_17 : (Cond.code ({ cls := "SupplyContract", name := "undo", desc := "()I" } : MethodName) prog_1_method_33_code (1 : Nat) (Option.some ClassFile.FieldType.int)) ∈ wsU := zt3 (i := 17) rfl rfl
theorem wm_3_18 : (Cond.methodLinkNest "SupplyContract" (247 : Nat) ({ cls := "SupplyContract$History", name := "giveBack", desc := "(LSupplyContract$Contract;)I" } : MethodName) "SupplyContract") ∈ wsU := zt3 (i := 18) rfl rfl
theorem wm_3_20 : (Cond.instanceMethod ({ cls := "SupplyContract$History", name := "giveBack", desc := "(LSupplyContract$Contract;)I" } : MethodName)) ∈ wsU := zt3 (i := 20) rfl rfl
theorem wm_3_21 : (Cond.code ({ cls := "SupplyContract$History", name := "giveBack", desc := "(LSupplyContract$Contract;)I" } : MethodName) prog_6_method_3_code (4 : Nat) (Option.some ClassFile.FieldType.int)) ∈ wsU := zt3 (i := 21) rfl rfl
theorem wm_3_22 : (Cond.methodLinkNest "SupplyContract$History" (25 : Nat) ({ cls := "SupplyContract$Contract", name := "copyFrom", desc := "(LSupplyContract$Contract;)V" } : MethodName) "SupplyContract") ∈ wsU := zt3 (i := 22) rfl rfl
theorem wm_3_24 : (Cond.instanceMethod ({ cls := "SupplyContract$Contract", name := "copyFrom", desc := "(LSupplyContract$Contract;)V" } : MethodName)) ∈ wsU := zt3 (i := 24) rfl rfl
theorem wm_3_25 : (Cond.code ({ cls := "SupplyContract$Contract", name := "copyFrom", desc := "(LSupplyContract$Contract;)V" } : MethodName) prog_4_method_2_code (2 : Nat) (Option.none : Option ClassFile.FieldType)) ∈ wsU := zt3 (i := 25) rfl rfl
theorem wm_3_26 : (Cond.methodLinkNest "SupplyContract$Contract" (30 : Nat) ({ cls := "SupplyContract$Terms", name := "copyFrom", desc := "(LSupplyContract$Terms;)V" } : MethodName) "SupplyContract") ∈ wsU := zt3 (i := 26) rfl rfl
theorem wm_3_28 : (Cond.instanceMethod ({ cls := "SupplyContract$Terms", name := "copyFrom", desc := "(LSupplyContract$Terms;)V" } : MethodName)) ∈ wsU := zt3 (i := 28) rfl rfl
theorem wm_3_29 : (Cond.code ({ cls := "SupplyContract$Terms", name := "copyFrom", desc := "(LSupplyContract$Terms;)V" } : MethodName) prog_9_method_3_code (2 : Nat) (Option.none : Option ClassFile.FieldType)) ∈ wsU := zt3 (i := 29) rfl rfl
theorem wm_3_30 : (Cond.methodLink "SupplyContract$Terms" (62 : Nat) ({ cls := "java/lang/System", name := "arraycopy", desc := "(Ljava/lang/Object;ILjava/lang/Object;II)V" } : MethodName)) ∈ wsU := zt3 (i := 30) rfl rfl
theorem wm_3_31 : (Cond.methodLinkNest "SupplyContract$Contract" (34 : Nat) ({ cls := "SupplyContract$Accounts", name := "copyFrom", desc := "(LSupplyContract$Accounts;)V" } : MethodName) "SupplyContract") ∈ wsU := zt3 (i := 31) rfl rfl
theorem wm_3_32 : (Cond.methodLinkNest "SupplyContract$Contract" (37 : Nat) ({ cls := "SupplyContract$Breaches", name := "copyFrom", desc := "(LSupplyContract$Breaches;)V" } : MethodName) "SupplyContract") ∈ wsU := zt3 (i := 32) rfl rfl
theorem wm_3_34 : (Cond.instanceMethod ({ cls := "SupplyContract$Breaches", name := "copyFrom", desc := "(LSupplyContract$Breaches;)V" } : MethodName)) ∈ wsU := zt3 (i := 34) rfl rfl
theorem wm_3_35 : (Cond.code ({ cls := "SupplyContract$Breaches", name := "copyFrom", desc := "(LSupplyContract$Breaches;)V" } : MethodName) prog_3_method_2_code (2 : Nat) (Option.none : Option ClassFile.FieldType)) ∈ wsU := zt3 (i := 35) rfl rfl
theorem wm_3_36 : (Cond.methodLink "SupplyContract$Breaches" (35 : Nat) ({ cls := "java/lang/System", name := "arraycopy", desc := "(Ljava/lang/Object;ILjava/lang/Object;II)V" } : MethodName)) ∈ wsU := zt3 (i := 36) rfl rfl
theorem wm_3_37 : (Cond.methodLink "SupplyContractLaw" (206 : Nat) ({ cls := "SupplyContract", name := "checksum", desc := "()J" } : MethodName)) ∈ wsU := zt3 (i := 37) rfl rfl
theorem wm_3_38 : (Cond.instanceMethod ({ cls := "SupplyContract", name := "checksum", desc := "()J" } : MethodName)) ∈ wsU := zt3 (i := 38) rfl rfl
theorem wm_3_39 : (Cond.selects "SupplyContract" ({ cls := "SupplyContract", name := "checksum", desc := "()J" } : MethodName) ({ cls := "SupplyContract", name := "checksum", desc := "()J" } : MethodName)) ∈ wsU := zt3 (i := 39) rfl rfl
theorem wm_3_40 : (Cond.code ({ cls := "SupplyContract", name := "checksum", desc := "()J" } : MethodName) prog_1_method_34_code (3 : Nat) (Option.some ClassFile.FieldType.long)) ∈ wsU := zt3 (i := 40) rfl rfl
theorem wm_3_41 : (Cond.constantLong "SupplyContract" (251 : Nat) (31 : Int64)) ∈ wsU := zt3 (i := 41) rfl rfl
theorem wm_3_42 : (Cond.methodLink "SupplyContract" (253 : Nat) ({ cls := "SupplyContract", name := "balance", desc := "()J" } : MethodName)) ∈ wsU := zt3 (i := 42) rfl rfl
theorem wm_3_43 : (Cond.methodLinkNest "SupplyContract" (256 : Nat) ({ cls := "SupplyContract$Accounts", name := "mixInto", desc := "(JI)J" } : MethodName) "SupplyContract") ∈ wsU := zt3 (i := 43) rfl rfl
theorem wm_3_45 : (Cond.instanceMethod ({ cls := "SupplyContract$Accounts", name := "mixInto", desc := "(JI)J" } : MethodName)) ∈ wsU := zt3 (i := 45) rfl rfl
theorem wm_3_46 : (Cond.code ({ cls := "SupplyContract$Accounts", name := "mixInto", desc := "(JI)J" } : MethodName) prog_2_method_13_code (7 : Nat) (Option.some ClassFile.FieldType.long)) ∈ wsU := zt3 (i := 46) rfl rfl
theorem wm_3_47 : (Cond.constantLong "SupplyContract$Accounts" (106 : Nat) (31 : Int64)) ∈ wsU := zt3 (i := 47) rfl rfl
theorem wm_3_48 : (Cond.methodLinkNest "SupplyContract" (260 : Nat) ({ cls := "SupplyContract$Breaches", name := "mixInto", desc := "(J)J" } : MethodName) "SupplyContract") ∈ wsU := zt3 (i := 48) rfl rfl
theorem wm_3_50 : (Cond.instanceMethod ({ cls := "SupplyContract$Breaches", name := "mixInto", desc := "(J)J" } : MethodName)) ∈ wsU := zt3 (i := 50) rfl rfl
theorem wm_3_51 : (Cond.code ({ cls := "SupplyContract$Breaches", name := "mixInto", desc := "(J)J" } : MethodName) prog_3_method_9_code (6 : Nat) (Option.some ClassFile.FieldType.long)) ∈ wsU := zt3 (i := 51) rfl rfl
theorem wm_3_52 : (Cond.constantLong "SupplyContract$Breaches" (63 : Nat) (31 : Int64)) ∈ wsU := zt3 (i := 52) rfl rfl
theorem wm_3_53 : (Cond.methodLink "SupplyContractLaw" (93 : Nat) ({ cls := "SupplyContractLaw", name := "load", desc := "(LSupplyContract;I[J)I" } : MethodName)) ∈ wsU := zt3 (i := 53) rfl rfl
theorem wm_3_54 : (Cond.static ({ cls := "SupplyContractLaw", name := "load", desc := "(LSupplyContract;I[J)I" } : MethodName)) ∈ wsU := zt3 (i := 54) rfl rfl
theorem wm_3_56 : (Cond.classLink "SupplyContractLaw" (13 : Nat) "java/lang/IllegalArgumentException") ∈ wsU := zt3 (i := 56) rfl rfl
theorem wm_3_57 : (Cond.methodLink "SupplyContractLaw" (7 : Nat) ({ cls := "SupplyContract", name := "load", desc := "(I)I" } : MethodName)) ∈ wsU := zt3 (i := 57) rfl rfl
theorem wm_3_58 : (Cond.instanceMethod ({ cls := "SupplyContract", name := "load", desc := "(I)I" } : MethodName)) ∈ wsU := zt3 (i := 58) rfl rfl
theorem wm_3_59 : (Cond.selects "SupplyContract" ({ cls := "SupplyContract", name := "load", desc := "(I)I" } : MethodName) ({ cls := "SupplyContract", name := "load", desc := "(I)I" } : MethodName)) ∈ wsU := zt3 (i := 59) rfl rfl
theorem wm_3_60 : (Cond.code ({ cls := "SupplyContract", name := "load", desc := "(I)I" } : MethodName) prog_1_method_3_code (3 : Nat) (Option.some ClassFile.FieldType.int)) ∈ wsU := zt3 (i := 60) rfl rfl
theorem wm_3_61 : (Cond.classLink "SupplyContract" (64 : Nat) "java/lang/IllegalArgumentException") ∈ wsU := zt3 (i := 61) rfl rfl
theorem wm_3_62 : (Cond.instantiable "java/lang/IllegalArgumentException" (6 : Nat)) ∈ wsU := zt3 (i := 62) rfl rfl
theorem wm_3_63 : (Cond.castable "java/lang/IllegalArgumentException" "java/lang/IllegalArgumentException") ∈ wsU := zt3 (i := 63) rfl rfl
theorem wm_3_64 : (Cond.declares ({ cls := "java/lang/RuntimeException", name := "<init>", desc := "()V" } : MethodName)) ∈ wsU := zt3 (i := 64) rfl rfl
theorem wm_3_65 : (Cond.declares ({ cls := "java/lang/RuntimeException", name := "<init>", desc := "(Ljava/lang/String;)V" } : MethodName)) ∈ wsU := zt3 (i := 65) rfl rfl
theorem wm_3_66 : (Cond.declares ({ cls := "java/lang/Exception", name := "<init>", desc := "()V" } : MethodName)) ∈ wsU := zt3 (i := 66) rfl rfl
theorem wm_3_67 : (Cond.declares ({ cls := "java/lang/Exception", name := "<init>", desc := "(Ljava/lang/String;)V" } : MethodName)) ∈ wsU := zt3 (i := 67) rfl rfl
theorem wm_3_68 : (Cond.declares ({ cls := "java/lang/Throwable", name := "<init>", desc := "()V" } : MethodName)) ∈ wsU := zt3 (i := 68) rfl rfl
theorem wm_3_69 : (Cond.declares ({ cls := "java/lang/Throwable", name := "<init>", desc := "(Ljava/lang/String;)V" } : MethodName)) ∈ wsU := zt3 (i := 69) rfl rfl
theorem wm_3_70 : (Cond.selects "java/lang/IllegalArgumentException" ({ cls := "java/lang/Throwable", name := "fillInStackTrace", desc := "(I)Ljava/lang/Throwable;" } : MethodName) ({ cls := "java/lang/Throwable", name := "fillInStackTrace", desc := "(I)Ljava/lang/Throwable;" } : MethodName)) ∈ wsU := zt3 (i := 70) rfl rfl
theorem wm_3_71 : (Cond.selects "java/lang/IllegalArgumentException" ({ cls := "java/lang/Throwable", name := "fillInStackTrace", desc := "()Ljava/lang/Throwable;" } : MethodName) ({ cls := "java/lang/Throwable", name := "fillInStackTrace", desc := "()Ljava/lang/Throwable;" } : MethodName)) ∈ wsU := zt3 (i := 71) rfl rfl
theorem wm_3_72 : (Cond.lays "java/lang/IllegalArgumentException" "java/lang/Throwable" "cause" "Ljava/lang/Throwable;") ∈ wsU := zt3 (i := 72) rfl rfl
theorem wm_3_73 : (Cond.lays "java/lang/Throwable" "java/lang/Throwable" "cause" "Ljava/lang/Throwable;") ∈ wsU := zt3 (i := 73) rfl rfl
theorem wm_3_74 : (Cond.lays "java/lang/IllegalArgumentException" "java/lang/Throwable" "stackTrace" "[Ljava/lang/StackTraceElement;") ∈ wsU := zt3 (i := 74) rfl rfl
theorem wm_3_75 : (Cond.lays "java/lang/Throwable" "java/lang/Throwable" "stackTrace" "[Ljava/lang/StackTraceElement;") ∈ wsU := zt3 (i := 75) rfl rfl
theorem wm_3_76 : (Cond.lays "java/lang/IllegalArgumentException" "java/lang/Throwable" "suppressedExceptions" "Ljava/util/List;") ∈ wsU := zt3 (i := 76) rfl rfl
theorem wm_3_77 : (Cond.lays "java/lang/Throwable" "java/lang/Throwable" "suppressedExceptions" "Ljava/util/List;") ∈ wsU := zt3 (i := 77) rfl rfl
theorem wm_3_78 : (Cond.lays "java/lang/IllegalArgumentException" "java/lang/Throwable" "detailMessage" "Ljava/lang/String;") ∈ wsU := zt3 (i := 78) rfl rfl
theorem wm_3_79 : (Cond.lays "java/lang/Throwable" "java/lang/Throwable" "detailMessage" "Ljava/lang/String;") ∈ wsU := zt3 (i := 79) rfl rfl
theorem wm_3_80 : (Cond.lays "java/lang/IllegalArgumentException" "java/lang/Throwable" "backtrace" "Ljava/lang/Object;") ∈ wsU := zt3 (i := 80) rfl rfl
theorem wm_3_81 : (Cond.lays "java/lang/Throwable" "java/lang/Throwable" "backtrace" "Ljava/lang/Object;") ∈ wsU := zt3 (i := 81) rfl rfl
theorem wm_3_82 : (Cond.fieldLink "java/lang/Throwable" (198 : Nat) "java/lang/Throwable" "backtrace" "Ljava/lang/Object;") ∈ wsU := zt3 (i := 82) rfl rfl
theorem wm_3_83 : (Cond.superclass "java/lang/Throwable" "java/lang/Object") ∈ wsU := zt3 (i := 83) rfl rfl
theorem wm_3_84 : (Cond.instanceMethod ({ cls := "java/lang/Throwable", name := "<init>", desc := "()V" } : MethodName)) ∈ wsU := zt3 (i := 84) rfl rfl
theorem wm_3_85 : (Cond.code ({ cls := "java/lang/Throwable", name := "<init>", desc := "()V" } : MethodName) prog_23_method_1_code (1 : Nat) (Option.none : Option ClassFile.FieldType)) ∈ wsU := zt3 (i := 85) rfl rfl
theorem wm_3_86 : (Cond.methodLink "java/lang/Throwable" (1 : Nat) ({ cls := "java/lang/Object", name := "<init>", desc := "()V" } : MethodName)) ∈ wsU := zt3 (i := 86) rfl rfl
theorem wm_3_87 : (Cond.fieldLink "java/lang/Throwable" (13 : Nat) "java/lang/Throwable" "UNASSIGNED_STACK" "[Ljava/lang/StackTraceElement;") ∈ wsU := zt3 (i := 87) rfl rfl
theorem wm_3_89 : (Cond.fieldLink "java/lang/Throwable" (20 : Nat) "java/lang/Throwable" "SUPPRESSED_SENTINEL" "Ljava/util/List;") ∈ wsU := zt3 (i := 89) rfl rfl
theorem wm_3_91 : (Cond.methodLink "java/lang/Throwable" (27 : Nat) ({ cls := "java/lang/Throwable", name := "fillInStackTrace", desc := "()Ljava/lang/Throwable;" } : MethodName)) ∈ wsU := zt3 (i := 91) rfl rfl
theorem wm_3_92 : (Cond.instanceMethod ({ cls := "java/lang/Throwable", name := "fillInStackTrace", desc := "()Ljava/lang/Throwable;" } : MethodName)) ∈ wsU := zt3 (i := 92) rfl rfl
theorem wm_3_93 : (Cond.sameMethod "java/lang/Throwable" "java/lang/Throwable" "fillInStackTrace" "()Ljava/lang/Throwable;") ∈ wsU := zt3 (i := 93) rfl rfl
theorem wm_3_94 : (Cond.selects "java/lang/IllegalStateException" ({ cls := "java/lang/Throwable", name := "fillInStackTrace", desc := "()Ljava/lang/Throwable;" } : MethodName) ({ cls := "java/lang/Throwable", name := "fillInStackTrace", desc := "()Ljava/lang/Throwable;" } : MethodName)) ∈ wsU := zt3 (i := 94) rfl rfl
theorem wm_3_95 : (Cond.selects "java/lang/IndexOutOfBoundsException" ({ cls := "java/lang/Throwable", name := "fillInStackTrace", desc := "()Ljava/lang/Throwable;" } : MethodName) ({ cls := "java/lang/Throwable", name := "fillInStackTrace", desc := "()Ljava/lang/Throwable;" } : MethodName)) ∈ wsU := zt3 (i := 95) rfl rfl
theorem wm_3_96 : (Cond.codeSync ({ cls := "java/lang/Throwable", name := "fillInStackTrace", desc := "()Ljava/lang/Throwable;" } : MethodName) prog_23_method_18_code (1 : Nat) (Option.some (ClassFile.FieldType.object "java/lang/Throwable"))) ∈ wsU := zt3 (i := 96) rfl rfl
theorem wm_3_97 : (Cond.methodLink "java/lang/Throwable" (202 : Nat) ({ cls := "java/lang/Throwable", name := "fillInStackTrace", desc := "(I)Ljava/lang/Throwable;" } : MethodName)) ∈ wsU := zt3 (i := 97) rfl rfl
theorem wm_3_99 : (Cond.instanceMethod ({ cls := "java/lang/Throwable", name := "fillInStackTrace", desc := "(I)Ljava/lang/Throwable;" } : MethodName)) ∈ wsU := zt3 (i := 99) rfl rfl
theorem wm_3_100 : (Cond.instantiable "java/lang/Throwable" (6 : Nat)) ∈ wsU := zt3 (i := 100) rfl rfl
theorem wm_3_101 : (Cond.native ({ cls := "java/lang/Throwable", name := "fillInStackTrace", desc := "(I)Ljava/lang/Throwable;" } : MethodName)) ∈ wsU := zt3 (i := 101) rfl rfl
theorem wm_3_103 : (Cond.methodLink "SupplyContract" (68 : Nat) ({ cls := "java/lang/IllegalArgumentException", name := "<init>", desc := "(Ljava/lang/String;)V" } : MethodName)) ∈ wsU := zt3 (i := 103) rfl rfl
theorem wm_3_104 : (Cond.instanceMethod ({ cls := "java/lang/IllegalArgumentException", name := "<init>", desc := "(Ljava/lang/String;)V" } : MethodName)) ∈ wsU := zt3 (i := 104) rfl rfl
theorem wm_3_105 : (Cond.code ({ cls := "java/lang/IllegalArgumentException", name := "<init>", desc := "(Ljava/lang/String;)V" } : MethodName) prog_14_method_2_code (2 : Nat) (Option.none : Option ClassFile.FieldType)) ∈ wsU := zt3 (i := 105) rfl rfl
theorem wm_3_106 : (Cond.methodLink "java/lang/IllegalArgumentException" (7 : Nat) ({ cls := "java/lang/RuntimeException", name := "<init>", desc := "(Ljava/lang/String;)V" } : MethodName)) ∈ wsU := zt3 (i := 106) rfl rfl
theorem wm_3_107 : (Cond.instanceMethod ({ cls := "java/lang/RuntimeException", name := "<init>", desc := "(Ljava/lang/String;)V" } : MethodName)) ∈ wsU := zt3 (i := 107) rfl rfl
theorem wm_3_108 : (Cond.code ({ cls := "java/lang/RuntimeException", name := "<init>", desc := "(Ljava/lang/String;)V" } : MethodName) prog_18_method_2_code (2 : Nat) (Option.none : Option ClassFile.FieldType)) ∈ wsU := zt3 (i := 108) rfl rfl
theorem wm_3_109 : (Cond.methodLink "java/lang/RuntimeException" (7 : Nat) ({ cls := "java/lang/Exception", name := "<init>", desc := "(Ljava/lang/String;)V" } : MethodName)) ∈ wsU := zt3 (i := 109) rfl rfl
theorem wm_3_110 : (Cond.instanceMethod ({ cls := "java/lang/Exception", name := "<init>", desc := "(Ljava/lang/String;)V" } : MethodName)) ∈ wsU := zt3 (i := 110) rfl rfl
theorem wm_3_111 : (Cond.code ({ cls := "java/lang/Exception", name := "<init>", desc := "(Ljava/lang/String;)V" } : MethodName) prog_13_method_2_code (2 : Nat) (Option.none : Option ClassFile.FieldType)) ∈ wsU := zt3 (i := 111) rfl rfl
theorem wm_3_112 : (Cond.methodLink "java/lang/Exception" (7 : Nat) ({ cls := "java/lang/Throwable", name := "<init>", desc := "(Ljava/lang/String;)V" } : MethodName)) ∈ wsU := zt3 (i := 112) rfl rfl
theorem wm_3_113 : (Cond.instanceMethod ({ cls := "java/lang/Throwable", name := "<init>", desc := "(Ljava/lang/String;)V" } : MethodName)) ∈ wsU := zt3 (i := 113) rfl rfl
theorem wm_3_114 : (Cond.code ({ cls := "java/lang/Throwable", name := "<init>", desc := "(Ljava/lang/String;)V" } : MethodName) prog_23_method_2_code (2 : Nat) (Option.none : Option ClassFile.FieldType)) ∈ wsU := zt3 (i := 114) rfl rfl
theorem wm_3_115 : (Cond.fieldLink "java/lang/Throwable" (198 : Nat) "java/lang/Throwable" "backtrace" "Ljava/lang/Object;") ∈ wsU := zt3 (i := 115) rfl rfl
theorem wm_3_116 : (Cond.fieldLink "java/lang/Throwable" (31 : Nat) "java/lang/Throwable" "detailMessage" "Ljava/lang/String;") ∈ wsU := zt3 (i := 116) rfl rfl
theorem wm_3_117 : (Cond.fieldLink "java/lang/Throwable" (7 : Nat) "java/lang/Throwable" "cause" "Ljava/lang/Throwable;") ∈ wsU := zt3 (i := 117) rfl rfl
theorem wm_3_118 : (Cond.fieldLink "java/lang/Throwable" (17 : Nat) "java/lang/Throwable" "stackTrace" "[Ljava/lang/StackTraceElement;") ∈ wsU := zt3 (i := 118) rfl rfl
theorem wm_3_119 : (Cond.fieldLink "java/lang/Throwable" (24 : Nat) "java/lang/Throwable" "suppressedExceptions" "Ljava/util/List;") ∈ wsU := zt3 (i := 119) rfl rfl
theorem wm_3_120 : (Cond.soleField "java/lang/Throwable" "backtrace") ∈ wsU := zt3 (i := 120) rfl rfl
theorem wm_3_121 : (Cond.soleField "java/lang/Throwable" "detailMessage") ∈ wsU := zt3 (i := 121) rfl rfl
theorem wm_3_122 : (Cond.soleField "java/lang/Throwable" "cause") ∈ wsU := zt3 (i := 122) rfl rfl
theorem wm_3_123 : (Cond.soleField "java/lang/Throwable" "stackTrace") ∈ wsU := zt3 (i := 123) rfl rfl
theorem wm_3_124 : (Cond.lays "java/lang/IllegalArgumentException" "java/lang/Throwable" "depth" "I") ∈ wsU := zt3 (i := 124) rfl rfl
theorem wm_3_125 : (Cond.soleField "java/lang/Throwable" "depth") ∈ wsU := zt3 (i := 125) rfl rfl
theorem wm_3_126 : (Cond.soleField "java/lang/Throwable" "suppressedExceptions") ∈ wsU := zt3 (i := 126) rfl rfl
theorem wm_3_127 : (Cond.superclass "java/lang/IllegalArgumentException" "java/lang/RuntimeException") ∈ wsU := zt3 (i := 127) rfl rfl
theorem wm_3_128 : (Cond.methodLinkNest "SupplyContract" (71 : Nat) ({ cls := "SupplyContract$SetupReader", name := "read", desc := "(I)I" } : MethodName) "SupplyContract") ∈ wsU := zt3 (i := 128) rfl rfl
theorem wm_3_130 : (Cond.instanceMethod ({ cls := "SupplyContract$SetupReader", name := "read", desc := "(I)I" } : MethodName)) ∈ wsU := zt3 (i := 130) rfl rfl
theorem wm_3_131 : (Cond.code ({ cls := "SupplyContract$SetupReader", name := "read", desc := "(I)I" } : MethodName) prog_8_method_2_code (3 : Nat) (Option.some ClassFile.FieldType.int)) ∈ wsU := zt3 (i := 131) rfl rfl
theorem wm_3_132 : (Cond.methodLinkNest "SupplyContract$SetupReader" (39 : Nat) ({ cls := "SupplyContract$InputText", name := "begin", desc := "(I)V" } : MethodName) "SupplyContract") ∈ wsU := zt3 (i := 132) rfl rfl
theorem wm_3_134 : (Cond.instanceMethod ({ cls := "SupplyContract$InputText", name := "begin", desc := "(I)V" } : MethodName)) ∈ wsU := zt3 (i := 134) rfl rfl
theorem wm_3_135 : (Cond.code ({ cls := "SupplyContract$InputText", name := "begin", desc := "(I)V" } : MethodName) prog_7_method_3_code (2 : Nat) (Option.none : Option ClassFile.FieldType)) ∈ wsU := zt3 (i := 135) rfl rfl
theorem wm_3_136 : (Cond.methodLink "SupplyContract$InputText" (40 : Nat) ({ cls := "SupplyContract$InputText", name := "goTo", desc := "(I)V" } : MethodName)) ∈ wsU := zt3 (i := 136) rfl rfl
theorem wm_3_138 : (Cond.instanceMethod ({ cls := "SupplyContract$InputText", name := "goTo", desc := "(I)V" } : MethodName)) ∈ wsU := zt3 (i := 138) rfl rfl
theorem wm_3_139 : (Cond.code ({ cls := "SupplyContract$InputText", name := "goTo", desc := "(I)V" } : MethodName) prog_7_method_4_code (2 : Nat) (Option.none : Option ClassFile.FieldType)) ∈ wsU := zt3 (i := 139) rfl rfl
theorem wm_3_140 : (Cond.methodLink "SupplyContract$InputText" (44 : Nat) ({ cls := "SupplyContract$InputText", name := "advance", desc := "()V" } : MethodName)) ∈ wsU := zt3 (i := 140) rfl rfl
theorem wm_3_142 : (Cond.instanceMethod ({ cls := "SupplyContract$InputText", name := "advance", desc := "()V" } : MethodName)) ∈ wsU := zt3 (i := 142) rfl rfl
theorem wm_3_143 : (Cond.code ({ cls := "SupplyContract$InputText", name := "advance", desc := "()V" } : MethodName) prog_7_method_5_code (1 : Nat) (Option.none : Option ClassFile.FieldType)) ∈ wsU := zt3 (i := 143) rfl rfl
theorem wm_3_144 : (Cond.constant "SupplyContract$InputText" (47 : Nat) (100000 : Int32)) ∈ wsU := zt3 (i := 144) rfl rfl
theorem wm_3_145 : (Cond.methodLink "SupplyContract$InputText" (48 : Nat) ({ cls := "java/lang/Math", name := "min", desc := "(II)I" } : MethodName)) ∈ wsU := zt3 (i := 145) rfl rfl
theorem wm_3_146 : (Cond.methodLinkNest "SupplyContract$SetupReader" (47 : Nat) ({ cls := "SupplyContract$Terms", name := "clear", desc := "()V" } : MethodName) "SupplyContract") ∈ wsU := zt3 (i := 146) rfl rfl
theorem wm_3_148 : (Cond.instanceMethod ({ cls := "SupplyContract$Terms", name := "clear", desc := "()V" } : MethodName)) ∈ wsU := zt3 (i := 148) rfl rfl
theorem wm_3_149 : (Cond.code ({ cls := "SupplyContract$Terms", name := "clear", desc := "()V" } : MethodName) prog_9_method_2_code (1 : Nat) (Option.none : Option ClassFile.FieldType)) ∈ wsU := zt3 (i := 149) rfl rfl
theorem wm_3_150 : (Cond.methodLink "SupplyContract$SetupReader" (52 : Nat) ({ cls := "SupplyContract$SetupReader", name := "readContract", desc := "()V" } : MethodName)) ∈ wsU := zt3 (i := 150) rfl rfl
theorem wm_3_152 : (Cond.instanceMethod ({ cls := "SupplyContract$SetupReader", name := "readContract", desc := "()V" } : MethodName)) ∈ wsU := zt3 (i := 152) rfl rfl
theorem wm_3_153 : (Cond.code ({ cls := "SupplyContract$SetupReader", name := "readContract", desc := "()V" } : MethodName) prog_8_method_3_code (2 : Nat) (Option.none : Option ClassFile.FieldType)) ∈ wsU := zt3 (i := 153) rfl rfl
theorem wm_3_155 : (Cond.methodLinkNest "SupplyContract$SetupReader" (73 : Nat) ({ cls := "SupplyContract$InputText", name := "takeWord", desc := "(Ljava/lang/String;)Z" } : MethodName) "SupplyContract") ∈ wsU := zt3 (i := 155) rfl rfl
theorem wm_3_157 : (Cond.instanceMethod ({ cls := "SupplyContract$InputText", name := "takeWord", desc := "(Ljava/lang/String;)Z" } : MethodName)) ∈ wsU := zt3 (i := 157) rfl rfl
theorem wm_3_158 : (Cond.code ({ cls := "SupplyContract$InputText", name := "takeWord", desc := "(Ljava/lang/String;)Z" } : MethodName) prog_7_method_10_code (3 : Nat) (Option.some ClassFile.FieldType.boolean)) ∈ wsU := zt3 (i := 158) rfl rfl
theorem wm_3_159 : (Cond.methodLink "SupplyContract$InputText" (58 : Nat) ({ cls := "SupplyContract$InputText", name := "isWord", desc := "(Ljava/lang/String;)Z" } : MethodName)) ∈ wsU := zt3 (i := 159) rfl rfl
theorem wm_3_161 : (Cond.instanceMethod ({ cls := "SupplyContract$InputText", name := "isWord", desc := "(Ljava/lang/String;)Z" } : MethodName)) ∈ wsU := zt3 (i := 161) rfl rfl
theorem wm_3_162 : (Cond.code ({ cls := "SupplyContract$InputText", name := "isWord", desc := "(Ljava/lang/String;)Z" } : MethodName) prog_7_method_11_code (3 : Nat) (Option.some ClassFile.FieldType.boolean)) ∈ wsU := zt3 (i := 162) rfl rfl
theorem wm_3_163 : (Cond.methodLink "SupplyContract$InputText" (62 : Nat) ({ cls := "java/lang/String", name := "length", desc := "()I" } : MethodName)) ∈ wsU := zt3 (i := 163) rfl rfl
theorem wm_3_164 : (Cond.instanceMethod ({ cls := "java/lang/String", name := "length", desc := "()I" } : MethodName)) ∈ wsU := zt3 (i := 164) rfl rfl
theorem wm_3_165 : (Cond.selects "java/lang/String" ({ cls := "java/lang/String", name := "length", desc := "()I" } : MethodName) ({ cls := "java/lang/String", name := "length", desc := "()I" } : MethodName)) ∈ wsU := zt3 (i := 165) rfl rfl
theorem wm_3_166 : (Cond.code ({ cls := "java/lang/String", name := "length", desc := "()I" } : MethodName) prog_19_method_54_code (1 : Nat) (Option.some ClassFile.FieldType.int)) ∈ wsU := zt3 (i := 166) rfl rfl
theorem wm_3_167 : (Cond.methodLink "java/lang/String" (335 : Nat) ({ cls := "java/lang/String", name := "coder", desc := "()B" } : MethodName)) ∈ wsU := zt3 (i := 167) rfl rfl
theorem wm_3_168 : (Cond.instanceMethod ({ cls := "java/lang/String", name := "coder", desc := "()B" } : MethodName)) ∈ wsU := zt3 (i := 168) rfl rfl
theorem wm_3_169 : (Cond.selects "java/lang/String" ({ cls := "java/lang/String", name := "coder", desc := "()B" } : MethodName) ({ cls := "java/lang/String", name := "coder", desc := "()B" } : MethodName)) ∈ wsU := zt3 (i := 169) rfl rfl
theorem wm_3_170 : (Cond.code ({ cls := "java/lang/String", name := "coder", desc := "()B" } : MethodName) prog_19_method_152_code (1 : Nat) (Option.some ClassFile.FieldType.byte)) ∈ wsU := zt3 (i := 170) rfl rfl
theorem wm_3_171 : (Cond.fieldLink "java/lang/String" (38 : Nat) "java/lang/String" "COMPACT_STRINGS" "Z") ∈ wsU := zt3 (i := 171) rfl rfl
theorem wm_3_173 : (Cond.methodLink "SupplyContract$InputText" (67 : Nat) ({ cls := "java/lang/String", name := "charAt", desc := "(I)C" } : MethodName)) ∈ wsU := zt3 (i := 173) rfl rfl
theorem wm_3_174 : (Cond.instanceMethod ({ cls := "java/lang/String", name := "charAt", desc := "(I)C" } : MethodName)) ∈ wsU := zt3 (i := 174) rfl rfl
theorem wm_3_175 : (Cond.selects "java/lang/String" ({ cls := "java/lang/String", name := "charAt", desc := "(I)C" } : MethodName) ({ cls := "java/lang/String", name := "charAt", desc := "(I)C" } : MethodName)) ∈ wsU := zt3 (i := 175) rfl rfl
theorem wm_3_176 : (Cond.code ({ cls := "java/lang/String", name := "charAt", desc := "(I)C" } : MethodName) prog_19_method_56_code (2 : Nat) (Option.some ClassFile.FieldType.char)) ∈ wsU := zt3 (i := 176) rfl rfl
theorem wm_3_177 : (Cond.methodLink "java/lang/String" (492 : Nat) ({ cls := "java/lang/String", name := "isLatin1", desc := "()Z" } : MethodName)) ∈ wsU := zt3 (i := 177) rfl rfl
theorem wm_3_178 : (Cond.instanceMethod ({ cls := "java/lang/String", name := "isLatin1", desc := "()Z" } : MethodName)) ∈ wsU := zt3 (i := 178) rfl rfl
theorem wm_3_179 : (Cond.selects "java/lang/String" ({ cls := "java/lang/String", name := "isLatin1", desc := "()Z" } : MethodName) ({ cls := "java/lang/String", name := "isLatin1", desc := "()Z" } : MethodName)) ∈ wsU := zt3 (i := 179) rfl rfl
theorem wm_3_180 : (Cond.code ({ cls := "java/lang/String", name := "isLatin1", desc := "()Z" } : MethodName) prog_19_method_154_code (1 : Nat) (Option.some ClassFile.FieldType.boolean)) ∈ wsU := zt3 (i := 180) rfl rfl
theorem wm_3_181 : (Cond.methodLink "java/lang/String" (495 : Nat) ({ cls := "java/lang/StringLatin1", name := "charAt", desc := "([BI)C" } : MethodName)) ∈ wsU := zt3 (i := 181) rfl rfl
theorem wm_3_182 : (Cond.static ({ cls := "java/lang/StringLatin1", name := "charAt", desc := "([BI)C" } : MethodName)) ∈ wsU := zt3 (i := 182) rfl rfl
theorem wm_3_183 : (Cond.code ({ cls := "java/lang/StringLatin1", name := "charAt", desc := "([BI)C" } : MethodName) prog_20_method_2_code (2 : Nat) (Option.some ClassFile.FieldType.char)) ∈ wsU := zt3 (i := 183) rfl rfl
theorem wm_3_184 : (Cond.methodLink "java/lang/StringLatin1" (9 : Nat) ({ cls := "java/lang/String", name := "checkIndex", desc := "(II)V" } : MethodName)) ∈ wsU := zt3 (i := 184) rfl rfl
theorem wm_3_185 : (Cond.static ({ cls := "java/lang/String", name := "checkIndex", desc := "(II)V" } : MethodName)) ∈ wsU := zt3 (i := 185) rfl rfl
theorem wm_3_186 : (Cond.code ({ cls := "java/lang/String", name := "checkIndex", desc := "(II)V" } : MethodName) prog_19_method_155_code (2 : Nat) (Option.none : Option ClassFile.FieldType)) ∈ wsU := zt3 (i := 186) rfl rfl
theorem wm_3_187 : (Cond.fieldLink "java/lang/String" (1053 : Nat) "jdk/internal/util/Preconditions" "SIOOBE_FORMATTER" "Ljava/util/function/BiFunction;") ∈ wsU := zt3 (i := 187) rfl rfl
theorem wm_3_189 : (Cond.methodLink "java/lang/String" (1059 : Nat) ({ cls := "jdk/internal/util/Preconditions", name := "checkIndex", desc := "(IILjava/util/function/BiFunction;)I" } : MethodName)) ∈ wsU := zt3 (i := 189) rfl rfl
theorem wm_3_190 : (Cond.static ({ cls := "jdk/internal/util/Preconditions", name := "checkIndex", desc := "(IILjava/util/function/BiFunction;)I" } : MethodName)) ∈ wsU := zt3 (i := 190) rfl rfl
theorem wm_3_191 : (Cond.code ({ cls := "jdk/internal/util/Preconditions", name := "checkIndex", desc := "(IILjava/util/function/BiFunction;)I" } : MethodName) prog_25_method_11_code (3 : Nat) (Option.some ClassFile.FieldType.int)) ∈ wsU := zt3 (i := 191) rfl rfl
theorem wm_3_192 : (Cond.methodLink "java/lang/String" (498 : Nat) ({ cls := "java/lang/StringUTF16", name := "charAt", desc := "([BI)C" } : MethodName)) ∈ wsU := zt3 (i := 192) rfl rfl
theorem wm_3_193 : (Cond.static ({ cls := "java/lang/StringUTF16", name := "charAt", desc := "([BI)C" } : MethodName)) ∈ wsU := zt3 (i := 193) rfl rfl
theorem wm_3_194 : (Cond.code ({ cls := "java/lang/StringUTF16", name := "charAt", desc := "([BI)C" } : MethodName) prog_21_method_83_code (2 : Nat) (Option.some ClassFile.FieldType.char)) ∈ wsU := zt3 (i := 194) rfl rfl
theorem wm_3_195 : (Cond.methodLink "java/lang/StringUTF16" (67 : Nat) ({ cls := "java/lang/StringUTF16", name := "checkIndex", desc := "(I[B)V" } : MethodName)) ∈ wsU := zt3 (i := 195) rfl rfl
theorem wm_3_196 : (Cond.static ({ cls := "java/lang/StringUTF16", name := "checkIndex", desc := "(I[B)V" } : MethodName)) ∈ wsU := zt3 (i := 196) rfl rfl
theorem wm_3_197 : (Cond.code ({ cls := "java/lang/StringUTF16", name := "checkIndex", desc := "(I[B)V" } : MethodName) prog_21_method_91_code (2 : Nat) (Option.none : Option ClassFile.FieldType)) ∈ wsU := zt3 (i := 197) rfl rfl
theorem wm_3_198 : (Cond.methodLink "java/lang/StringUTF16" (48 : Nat) ({ cls := "java/lang/StringUTF16", name := "length", desc := "([B)I" } : MethodName)) ∈ wsU := zt3 (i := 198) rfl rfl
theorem wm_3_199 : (Cond.static ({ cls := "java/lang/StringUTF16", name := "length", desc := "([B)I" } : MethodName)) ∈ wsU := zt3 (i := 199) rfl rfl
theorem wm_3_200 : (Cond.code ({ cls := "java/lang/StringUTF16", name := "length", desc := "([B)I" } : MethodName) prog_21_method_6_code (1 : Nat) (Option.some ClassFile.FieldType.int)) ∈ wsU := zt3 (i := 200) rfl rfl
theorem wm_3_201 : (Cond.methodLink "java/lang/StringUTF16" (414 : Nat) ({ cls := "java/lang/String", name := "checkIndex", desc := "(II)V" } : MethodName)) ∈ wsU := zt3 (i := 201) rfl rfl
theorem wm_3_202 : (Cond.methodLink "java/lang/StringUTF16" (71 : Nat) ({ cls := "java/lang/StringUTF16", name := "getChar", desc := "([BI)C" } : MethodName)) ∈ wsU := zt3 (i := 202) rfl rfl
theorem wm_3_203 : (Cond.static ({ cls := "java/lang/StringUTF16", name := "getChar", desc := "([BI)C" } : MethodName)) ∈ wsU := zt3 (i := 203) rfl rfl
theorem wm_3_204 : (Cond.code ({ cls := "java/lang/StringUTF16", name := "getChar", desc := "([BI)C" } : MethodName) prog_21_method_5_code (2 : Nat) (Option.some ClassFile.FieldType.char)) ∈ wsU := zt3 (i := 204) rfl rfl
theorem wm_3_205 : (Cond.fieldLink "java/lang/StringUTF16" (44 : Nat) "java/lang/StringUTF16" "$assertionsDisabled" "Z") ∈ wsU := zt3 (i := 205) rfl rfl
theorem wm_3_207 : (Cond.fieldLink "java/lang/StringUTF16" (59 : Nat) "java/lang/StringUTF16" "HI_BYTE_SHIFT" "I") ∈ wsU := zt3 (i := 207) rfl rfl
theorem wm_3_209 : (Cond.fieldLink "java/lang/StringUTF16" (63 : Nat) "java/lang/StringUTF16" "LO_BYTE_SHIFT" "I") ∈ wsU := zt3 (i := 209) rfl rfl
theorem wm_3_211 : (Cond.methodLinkNest "SupplyContract$SetupReader" (80 : Nat) ({ cls := "SupplyContract$InputText", name := "fail", desc := "(II)V" } : MethodName) "SupplyContract") ∈ wsU := zt3 (i := 211) rfl rfl
theorem wm_3_213 : (Cond.instanceMethod ({ cls := "SupplyContract$InputText", name := "fail", desc := "(II)V" } : MethodName)) ∈ wsU := zt3 (i := 213) rfl rfl
theorem wm_3_214 : (Cond.code ({ cls := "SupplyContract$InputText", name := "fail", desc := "(II)V" } : MethodName) prog_7_method_6_code (3 : Nat) (Option.none : Option ClassFile.FieldType)) ∈ wsU := zt3 (i := 214) rfl rfl
theorem wm_3_215 : (Cond.methodLinkNest "SupplyContract$SetupReader" (84 : Nat) ({ cls := "SupplyContract$InputText", name := "number", desc := "(II)I" } : MethodName) "SupplyContract") ∈ wsU := zt3 (i := 215) rfl rfl
theorem wm_3_217 : (Cond.instanceMethod ({ cls := "SupplyContract$InputText", name := "number", desc := "(II)I" } : MethodName)) ∈ wsU := zt3 (i := 217) rfl rfl
theorem wm_3_218 : (Cond.code ({ cls := "SupplyContract$InputText", name := "number", desc := "(II)I" } : MethodName) prog_7_method_7_code (4 : Nat) (Option.some ClassFile.FieldType.int)) ∈ wsU := zt3 (i := 218) rfl rfl
theorem wm_3_219 : (Cond.methodLink "SupplyContract$InputText" (54 : Nat) ({ cls := "SupplyContract$InputText", name := "fail", desc := "(II)V" } : MethodName)) ∈ wsU := zt3 (i := 219) rfl rfl
theorem wm_3_220 : (Cond.methodLinkNest "SupplyContract$SetupReader" (95 : Nat) ({ cls := "SupplyContract$Accounts", name := "clear", desc := "(I)V" } : MethodName) "SupplyContract") ∈ wsU := zt3 (i := 220) rfl rfl
theorem wm_3_222 : (Cond.instanceMethod ({ cls := "SupplyContract$Accounts", name := "clear", desc := "(I)V" } : MethodName)) ∈ wsU := zt3 (i := 222) rfl rfl
theorem wm_3_223 : (Cond.code ({ cls := "SupplyContract$Accounts", name := "clear", desc := "(I)V" } : MethodName) prog_2_method_2_code (2 : Nat) (Option.none : Option ClassFile.FieldType)) ∈ wsU := zt3 (i := 223) rfl rfl
theorem wm_3_224 : (Cond.methodLink "SupplyContract$Accounts" (35 : Nat) ({ cls := "java/util/Arrays", name := "fill", desc := "([II)V" } : MethodName)) ∈ wsU := zt3 (i := 224) rfl rfl
theorem wm_3_225 : (Cond.static ({ cls := "java/util/Arrays", name := "fill", desc := "([II)V" } : MethodName)) ∈ wsU := zt3 (i := 225) rfl rfl
theorem wm_3_226 : (Cond.code ({ cls := "java/util/Arrays", name := "fill", desc := "([II)V" } : MethodName) prog_24_method_103_code (4 : Nat) (Option.none : Option ClassFile.FieldType)) ∈ wsU := zt3 (i := 226) rfl rfl
theorem wm_3_227 : (Cond.methodLink "SupplyContract$Accounts" (41 : Nat) ({ cls := "java/util/Arrays", name := "fill", desc := "([JJ)V" } : MethodName)) ∈ wsU := zt3 (i := 227) rfl rfl
theorem wm_3_228 : (Cond.static ({ cls := "java/util/Arrays", name := "fill", desc := "([JJ)V" } : MethodName)) ∈ wsU := zt3 (i := 228) rfl rfl
theorem wm_3_229 : (Cond.code ({ cls := "java/util/Arrays", name := "fill", desc := "([JJ)V" } : MethodName) prog_24_method_101_code (5 : Nat) (Option.none : Option ClassFile.FieldType)) ∈ wsU := zt3 (i := 229) rfl rfl
theorem wm_3_230 : (Cond.methodLinkNest "SupplyContract$SetupReader" (61 : Nat) ({ cls := "SupplyContract$InputText", name := "sign", desc := "(C)V" } : MethodName) "SupplyContract") ∈ wsU := zt3 (i := 230) rfl rfl
theorem wm_3_232 : (Cond.instanceMethod ({ cls := "SupplyContract$InputText", name := "sign", desc := "(C)V" } : MethodName)) ∈ wsU := zt3 (i := 232) rfl rfl
theorem wm_3_233 : (Cond.code ({ cls := "SupplyContract$InputText", name := "sign", desc := "(C)V" } : MethodName) prog_7_method_8_code (2 : Nat) (Option.none : Option ClassFile.FieldType)) ∈ wsU := zt3 (i := 233) rfl rfl
theorem wm_3_234 : (Cond.methodLink "SupplyContract$SetupReader" (58 : Nat) ({ cls := "SupplyContract$SetupReader", name := "readStatement", desc := "()V" } : MethodName)) ∈ wsU := zt3 (i := 234) rfl rfl
theorem wm_3_236 : (Cond.instanceMethod ({ cls := "SupplyContract$SetupReader", name := "readStatement", desc := "()V" } : MethodName)) ∈ wsU := zt3 (i := 236) rfl rfl
theorem wm_3_237 : (Cond.code ({ cls := "SupplyContract$SetupReader", name := "readStatement", desc := "()V" } : MethodName) prog_8_method_4_code (2 : Nat) (Option.none : Option ClassFile.FieldType)) ∈ wsU := zt3 (i := 237) rfl rfl
theorem wm_3_239 : (Cond.methodLink "SupplyContract$SetupReader" (107 : Nat) ({ cls := "SupplyContract$SetupReader", name := "readBand", desc := "()V" } : MethodName)) ∈ wsU := zt3 (i := 239) rfl rfl
theorem wm_4_1 : (Cond.instanceMethod ({ cls := "SupplyContract$SetupReader", name := "readBand", desc := "()V" } : MethodName)) ∈ wsU := zt4 (i := 1) rfl rfl
theorem wm_4_2 : (Cond.code ({ cls := "SupplyContract$SetupReader", name := "readBand", desc := "()V" } : MethodName) prog_8_method_6_code (4 : Nat) (Option.none : Option ClassFile.FieldType)) ∈ wsU := zt4 (i := 2) rfl rfl
theorem wm_4_3 : (Cond.methodLinkNest "SupplyContract$SetupReader" (152 : Nat) ({ cls := "SupplyContract$Terms", name := "hasBand", desc := "(I)Z" } : MethodName) "SupplyContract") ∈ wsU := zt4 (i := 3) rfl rfl
theorem wm_4_5 : (Cond.instanceMethod ({ cls := "SupplyContract$Terms", name := "hasBand", desc := "(I)Z" } : MethodName)) ∈ wsU := zt4 (i := 5) rfl rfl
theorem wm_4_6 : (Cond.code ({ cls := "SupplyContract$Terms", name := "hasBand", desc := "(I)Z" } : MethodName) prog_9_method_4_code (2 : Nat) (Option.some ClassFile.FieldType.boolean)) ∈ wsU := zt4 (i := 6) rfl rfl
theorem wm_4_7 : (Cond.methodLinkNest "SupplyContract$SetupReader" (156 : Nat) ({ cls := "SupplyContract$Terms", name := "addBand", desc := "(III)V" } : MethodName) "SupplyContract") ∈ wsU := zt4 (i := 7) rfl rfl
theorem wm_4_9 : (Cond.instanceMethod ({ cls := "SupplyContract$Terms", name := "addBand", desc := "(III)V" } : MethodName)) ∈ wsU := zt4 (i := 9) rfl rfl
theorem wm_4_10 : (Cond.code ({ cls := "SupplyContract$Terms", name := "addBand", desc := "(III)V" } : MethodName) prog_9_method_5_code (4 : Nat) (Option.none : Option ClassFile.FieldType)) ∈ wsU := zt4 (i := 10) rfl rfl
theorem wm_4_12 : (Cond.methodLink "SupplyContract$SetupReader" (112 : Nat) ({ cls := "SupplyContract$SetupReader", name := "takeFirst", desc := "(Ljava/lang/String;I)Z" } : MethodName)) ∈ wsU := zt4 (i := 12) rfl rfl
theorem wm_4_14 : (Cond.instanceMethod ({ cls := "SupplyContract$SetupReader", name := "takeFirst", desc := "(Ljava/lang/String;I)Z" } : MethodName)) ∈ wsU := zt4 (i := 14) rfl rfl
theorem wm_4_15 : (Cond.code ({ cls := "SupplyContract$SetupReader", name := "takeFirst", desc := "(Ljava/lang/String;I)Z" } : MethodName) prog_8_method_5_code (3 : Nat) (Option.some ClassFile.FieldType.boolean)) ∈ wsU := zt4 (i := 15) rfl rfl
theorem wm_4_17 : (Cond.methodLink "SupplyContract$SetupReader" (124 : Nat) ({ cls := "SupplyContract$SetupReader", name := "readLadder", desc := "()V" } : MethodName)) ∈ wsU := zt4 (i := 17) rfl rfl
theorem wm_4_19 : (Cond.instanceMethod ({ cls := "SupplyContract$SetupReader", name := "readLadder", desc := "()V" } : MethodName)) ∈ wsU := zt4 (i := 19) rfl rfl
theorem wm_4_20 : (Cond.code ({ cls := "SupplyContract$SetupReader", name := "readLadder", desc := "()V" } : MethodName) prog_8_method_7_code (2 : Nat) (Option.none : Option ClassFile.FieldType)) ∈ wsU := zt4 (i := 20) rfl rfl
theorem wm_4_21 : (Cond.methodLink "SupplyContract$SetupReader" (160 : Nat) ({ cls := "SupplyContract$SetupReader", name := "readStep", desc := "()V" } : MethodName)) ∈ wsU := zt4 (i := 21) rfl rfl
theorem wm_4_23 : (Cond.instanceMethod ({ cls := "SupplyContract$SetupReader", name := "readStep", desc := "()V" } : MethodName)) ∈ wsU := zt4 (i := 23) rfl rfl
theorem wm_4_24 : (Cond.code ({ cls := "SupplyContract$SetupReader", name := "readStep", desc := "()V" } : MethodName) prog_8_method_8_code (5 : Nat) (Option.none : Option ClassFile.FieldType)) ∈ wsU := zt4 (i := 24) rfl rfl
theorem wm_4_30 : (Cond.methodLinkNest "SupplyContract$SetupReader" (148 : Nat) ({ cls := "SupplyContract$DemandReader", name := "sum", desc := "(LSupplyContract$InputText;I)J" } : MethodName) "SupplyContract") ∈ wsU := zt4 (i := 30) rfl rfl
theorem wm_4_32 : (Cond.instanceMethod ({ cls := "SupplyContract$DemandReader", name := "sum", desc := "(LSupplyContract$InputText;I)J" } : MethodName)) ∈ wsU := zt4 (i := 32) rfl rfl
theorem wm_4_33 : (Cond.code ({ cls := "SupplyContract$DemandReader", name := "sum", desc := "(LSupplyContract$InputText;I)J" } : MethodName) prog_5_method_2_code (6 : Nat) (Option.some ClassFile.FieldType.long)) ∈ wsU := zt4 (i := 33) rfl rfl
theorem wm_4_34 : (Cond.methodLink "SupplyContract$DemandReader" (18 : Nat) ({ cls := "SupplyContract$DemandReader", name := "term", desc := "(LSupplyContract$InputText;I)J" } : MethodName)) ∈ wsU := zt4 (i := 34) rfl rfl
theorem wm_4_36 : (Cond.instanceMethod ({ cls := "SupplyContract$DemandReader", name := "term", desc := "(LSupplyContract$InputText;I)J" } : MethodName)) ∈ wsU := zt4 (i := 36) rfl rfl
theorem wm_4_37 : (Cond.code ({ cls := "SupplyContract$DemandReader", name := "term", desc := "(LSupplyContract$InputText;I)J" } : MethodName) prog_5_method_3_code (6 : Nat) (Option.some ClassFile.FieldType.long)) ∈ wsU := zt4 (i := 37) rfl rfl
theorem wm_4_38 : (Cond.methodLink "SupplyContract$DemandReader" (32 : Nat) ({ cls := "SupplyContract$DemandReader", name := "factor", desc := "(LSupplyContract$InputText;I)J" } : MethodName)) ∈ wsU := zt4 (i := 38) rfl rfl
theorem wm_4_40 : (Cond.instanceMethod ({ cls := "SupplyContract$DemandReader", name := "factor", desc := "(LSupplyContract$InputText;I)J" } : MethodName)) ∈ wsU := zt4 (i := 40) rfl rfl
theorem wm_4_41 : (Cond.code ({ cls := "SupplyContract$DemandReader", name := "factor", desc := "(LSupplyContract$InputText;I)J" } : MethodName) prog_5_method_4_code (5 : Nat) (Option.some ClassFile.FieldType.long)) ∈ wsU := zt4 (i := 41) rfl rfl
theorem wm_4_42 : (Cond.methodLinkNest "SupplyContract$DemandReader" (45 : Nat) ({ cls := "SupplyContract$InputText", name := "fail", desc := "(II)V" } : MethodName) "SupplyContract") ∈ wsU := zt4 (i := 42) rfl rfl
theorem wm_4_43 : (Cond.methodLinkNest "SupplyContract$DemandReader" (22 : Nat) ({ cls := "SupplyContract$InputText", name := "takeSign", desc := "(C)Z" } : MethodName) "SupplyContract") ∈ wsU := zt4 (i := 43) rfl rfl
theorem wm_4_45 : (Cond.instanceMethod ({ cls := "SupplyContract$InputText", name := "takeSign", desc := "(C)Z" } : MethodName)) ∈ wsU := zt4 (i := 45) rfl rfl
theorem wm_4_46 : (Cond.code ({ cls := "SupplyContract$InputText", name := "takeSign", desc := "(C)Z" } : MethodName) prog_7_method_9_code (3 : Nat) (Option.some ClassFile.FieldType.boolean)) ∈ wsU := zt4 (i := 46) rfl rfl
theorem wm_4_47 : (Cond.methodLink "SupplyContract$DemandReader" (49 : Nat) ({ cls := "SupplyContract$DemandReader", name := "sum", desc := "(LSupplyContract$InputText;I)J" } : MethodName)) ∈ wsU := zt4 (i := 47) rfl rfl
theorem wm_4_48 : (Cond.methodLinkNest "SupplyContract$DemandReader" (52 : Nat) ({ cls := "SupplyContract$InputText", name := "sign", desc := "(C)V" } : MethodName) "SupplyContract") ∈ wsU := zt4 (i := 48) rfl rfl
theorem wm_4_50 : (Cond.methodLinkNest "SupplyContract$DemandReader" (57 : Nat) ({ cls := "SupplyContract$InputText", name := "takeWord", desc := "(Ljava/lang/String;)Z" } : MethodName) "SupplyContract") ∈ wsU := zt4 (i := 50) rfl rfl
theorem wm_4_53 : (Cond.methodLinkNest "SupplyContract$DemandReader" (64 : Nat) ({ cls := "SupplyContract$InputText", name := "number", desc := "(II)I" } : MethodName) "SupplyContract") ∈ wsU := zt4 (i := 53) rfl rfl
theorem wm_4_54 : (Cond.methodLink "SupplyContract$DemandReader" (28 : Nat) ({ cls := "SupplyContract$DemandReader", name := "limited", desc := "(J)J" } : MethodName)) ∈ wsU := zt4 (i := 54) rfl rfl
theorem wm_4_55 : (Cond.static ({ cls := "SupplyContract$DemandReader", name := "limited", desc := "(J)J" } : MethodName)) ∈ wsU := zt4 (i := 55) rfl rfl
theorem wm_4_56 : (Cond.code ({ cls := "SupplyContract$DemandReader", name := "limited", desc := "(J)J" } : MethodName) prog_5_method_6_code (2 : Nat) (Option.some ClassFile.FieldType.long)) ∈ wsU := zt4 (i := 56) rfl rfl
theorem wm_4_57 : (Cond.constantLong "SupplyContract$DemandReader" (68 : Nat) (-1000000 : Int64)) ∈ wsU := zt4 (i := 57) rfl rfl
theorem wm_4_58 : (Cond.constantLong "SupplyContract$DemandReader" (70 : Nat) (1000000 : Int64)) ∈ wsU := zt4 (i := 58) rfl rfl
theorem wm_4_59 : (Cond.methodLink "SupplyContract$DemandReader" (72 : Nat) ({ cls := "java/lang/Math", name := "min", desc := "(JJ)J" } : MethodName)) ∈ wsU := zt4 (i := 59) rfl rfl
theorem wm_4_60 : (Cond.static ({ cls := "java/lang/Math", name := "min", desc := "(JJ)J" } : MethodName)) ∈ wsU := zt4 (i := 60) rfl rfl
theorem wm_4_61 : (Cond.code ({ cls := "java/lang/Math", name := "min", desc := "(JJ)J" } : MethodName) prog_17_method_70_code (4 : Nat) (Option.some ClassFile.FieldType.long)) ∈ wsU := zt4 (i := 61) rfl rfl
theorem wm_4_62 : (Cond.methodLink "SupplyContract$DemandReader" (77 : Nat) ({ cls := "java/lang/Math", name := "max", desc := "(JJ)J" } : MethodName)) ∈ wsU := zt4 (i := 62) rfl rfl
theorem wm_4_63 : (Cond.static ({ cls := "java/lang/Math", name := "max", desc := "(JJ)J" } : MethodName)) ∈ wsU := zt4 (i := 63) rfl rfl
theorem wm_4_64 : (Cond.code ({ cls := "java/lang/Math", name := "max", desc := "(JJ)J" } : MethodName) prog_17_method_66_code (4 : Nat) (Option.some ClassFile.FieldType.long)) ∈ wsU := zt4 (i := 64) rfl rfl
theorem wm_4_65 : (Cond.methodLink "SupplyContract$DemandReader" (35 : Nat) ({ cls := "SupplyContract$DemandReader", name := "quotient", desc := "(JJ)J" } : MethodName)) ∈ wsU := zt4 (i := 65) rfl rfl
theorem wm_4_66 : (Cond.static ({ cls := "SupplyContract$DemandReader", name := "quotient", desc := "(JJ)J" } : MethodName)) ∈ wsU := zt4 (i := 66) rfl rfl
theorem wm_4_67 : (Cond.code ({ cls := "SupplyContract$DemandReader", name := "quotient", desc := "(JJ)J" } : MethodName) prog_5_method_5_code (4 : Nat) (Option.some ClassFile.FieldType.long)) ∈ wsU := zt4 (i := 67) rfl rfl
theorem wm_4_68 : (Cond.methodLink "SupplyContract$SetupReader" (68 : Nat) ({ cls := "SupplyContract$SetupReader", name := "computeForecasts", desc := "()V" } : MethodName)) ∈ wsU := zt4 (i := 68) rfl rfl
theorem wm_4_70 : (Cond.instanceMethod ({ cls := "SupplyContract$SetupReader", name := "computeForecasts", desc := "()V" } : MethodName)) ∈ wsU := zt4 (i := 70) rfl rfl
theorem wm_4_71 : (Cond.code ({ cls := "SupplyContract$SetupReader", name := "computeForecasts", desc := "()V" } : MethodName) prog_8_method_9_code (5 : Nat) (Option.none : Option ClassFile.FieldType)) ∈ wsU := zt4 (i := 71) rfl rfl
theorem wm_4_72 : (Cond.methodLinkNest "SupplyContract$SetupReader" (173 : Nat) ({ cls := "SupplyContract$InputText", name := "goTo", desc := "(I)V" } : MethodName) "SupplyContract") ∈ wsU := zt4 (i := 72) rfl rfl
theorem wm_4_73 : (Cond.constantLong "SupplyContract$SetupReader" (187 : Nat) (9999 : Int64)) ∈ wsU := zt4 (i := 73) rfl rfl
theorem wm_4_74 : (Cond.methodLink "SupplyContract$SetupReader" (189 : Nat) ({ cls := "java/lang/Math", name := "min", desc := "(JJ)J" } : MethodName)) ∈ wsU := zt4 (i := 74) rfl rfl
theorem wm_4_75 : (Cond.methodLink "SupplyContract$SetupReader" (195 : Nat) ({ cls := "java/lang/Math", name := "max", desc := "(JJ)J" } : MethodName)) ∈ wsU := zt4 (i := 75) rfl rfl
theorem wm_4_76 : (Cond.methodLinkNest "SupplyContract" (78 : Nat) ({ cls := "SupplyContract$History", name := "keep", desc := "(LSupplyContract$Contract;)V" } : MethodName) "SupplyContract") ∈ wsU := zt4 (i := 76) rfl rfl
theorem wm_4_78 : (Cond.instanceMethod ({ cls := "SupplyContract$History", name := "keep", desc := "(LSupplyContract$Contract;)V" } : MethodName)) ∈ wsU := zt4 (i := 78) rfl rfl
theorem wm_4_79 : (Cond.code ({ cls := "SupplyContract$History", name := "keep", desc := "(LSupplyContract$Contract;)V" } : MethodName) prog_6_method_2_code (3 : Nat) (Option.none : Option ClassFile.FieldType)) ∈ wsU := zt4 (i := 79) rfl rfl
theorem wm_4_80 : (Cond.methodLinkNest "SupplyContract$History" (24 : Nat) ({ cls := "SupplyContract$Contract", name := "<init>", desc := "()V" } : MethodName) "SupplyContract") ∈ wsU := zt4 (i := 80) rfl rfl
theorem wm_4_81 : (Cond.methodLink "SupplyContract$History" (29 : Nat) ({ cls := "java/lang/Math", name := "min", desc := "(II)I" } : MethodName)) ∈ wsU := zt4 (i := 81) rfl rfl
theorem wm_4_82 : (Cond.methodLinkNest "SupplyContract" (85 : Nat) ({ cls := "SupplyContract$Contract", name := "copyFrom", desc := "(LSupplyContract$Contract;)V" } : MethodName) "SupplyContract") ∈ wsU := zt4 (i := 82) rfl rfl
theorem wm_4_83 : (Cond.methodLink "SupplyContractLaw" (115 : Nat) ({ cls := "SupplyContractLaw", name := "reservedIn", desc := "(LSupplyContract;I[J)I" } : MethodName)) ∈ wsU := zt4 (i := 83) rfl rfl
theorem wm_4_84 : (Cond.static ({ cls := "SupplyContractLaw", name := "reservedIn", desc := "(LSupplyContract;I[J)I" } : MethodName)) ∈ wsU := zt4 (i := 84) rfl rfl
theorem wm_4_86 : (Cond.classLink "SupplyContractLaw" (18 : Nat) "java/lang/IndexOutOfBoundsException") ∈ wsU := zt4 (i := 86) rfl rfl
theorem wm_4_87 : (Cond.methodLink "SupplyContractLaw" (15 : Nat) ({ cls := "SupplyContract", name := "reservedIn", desc := "(I)I" } : MethodName)) ∈ wsU := zt4 (i := 87) rfl rfl
theorem wm_4_88 : (Cond.instanceMethod ({ cls := "SupplyContract", name := "reservedIn", desc := "(I)I" } : MethodName)) ∈ wsU := zt4 (i := 88) rfl rfl
theorem wm_4_89 : (Cond.selects "SupplyContract" ({ cls := "SupplyContract", name := "reservedIn", desc := "(I)I" } : MethodName) ({ cls := "SupplyContract", name := "reservedIn", desc := "(I)I" } : MethodName)) ∈ wsU := zt4 (i := 89) rfl rfl
theorem wm_4_90 : (Cond.code ({ cls := "SupplyContract", name := "reservedIn", desc := "(I)I" } : MethodName) prog_1_method_7_code (2 : Nat) (Option.some ClassFile.FieldType.int)) ∈ wsU := zt4 (i := 90) rfl rfl
theorem wm_4_91 : (Cond.methodLink "SupplyContract" (103 : Nat) ({ cls := "SupplyContract", name := "checkPeriod", desc := "(I)V" } : MethodName)) ∈ wsU := zt4 (i := 91) rfl rfl
theorem wm_4_93 : (Cond.instanceMethod ({ cls := "SupplyContract", name := "checkPeriod", desc := "(I)V" } : MethodName)) ∈ wsU := zt4 (i := 93) rfl rfl
theorem wm_4_94 : (Cond.code ({ cls := "SupplyContract", name := "checkPeriod", desc := "(I)V" } : MethodName) prog_1_method_35_code (2 : Nat) (Option.none : Option ClassFile.FieldType)) ∈ wsU := zt4 (i := 94) rfl rfl
theorem wm_4_95 : (Cond.classLink "SupplyContract" (263 : Nat) "java/lang/IndexOutOfBoundsException") ∈ wsU := zt4 (i := 95) rfl rfl
theorem wm_4_96 : (Cond.instantiable "java/lang/IndexOutOfBoundsException" (6 : Nat)) ∈ wsU := zt4 (i := 96) rfl rfl
theorem wm_4_97 : (Cond.castable "java/lang/IndexOutOfBoundsException" "java/lang/IndexOutOfBoundsException") ∈ wsU := zt4 (i := 97) rfl rfl
theorem wm_4_98 : (Cond.selects "java/lang/IndexOutOfBoundsException" ({ cls := "java/lang/Throwable", name := "fillInStackTrace", desc := "(I)Ljava/lang/Throwable;" } : MethodName) ({ cls := "java/lang/Throwable", name := "fillInStackTrace", desc := "(I)Ljava/lang/Throwable;" } : MethodName)) ∈ wsU := zt4 (i := 98) rfl rfl
theorem wm_4_99 : (Cond.lays "java/lang/IndexOutOfBoundsException" "java/lang/Throwable" "cause" "Ljava/lang/Throwable;") ∈ wsU := zt4 (i := 99) rfl rfl
theorem wm_4_100 : (Cond.lays "java/lang/IndexOutOfBoundsException" "java/lang/Throwable" "stackTrace" "[Ljava/lang/StackTraceElement;") ∈ wsU := zt4 (i := 100) rfl rfl
theorem wm_4_101 : (Cond.lays "java/lang/IndexOutOfBoundsException" "java/lang/Throwable" "suppressedExceptions" "Ljava/util/List;") ∈ wsU := zt4 (i := 101) rfl rfl
theorem wm_4_102 : (Cond.lays "java/lang/IndexOutOfBoundsException" "java/lang/Throwable" "detailMessage" "Ljava/lang/String;") ∈ wsU := zt4 (i := 102) rfl rfl
theorem wm_4_103 : (Cond.lays "java/lang/IndexOutOfBoundsException" "java/lang/Throwable" "backtrace" "Ljava/lang/Object;") ∈ wsU := zt4 (i := 103) rfl rfl
theorem wm_4_105 : (Cond.methodLink "SupplyContract" (267 : Nat) ({ cls := "java/lang/IndexOutOfBoundsException", name := "<init>", desc := "(Ljava/lang/String;)V" } : MethodName)) ∈ wsU := zt4 (i := 105) rfl rfl
theorem wm_4_106 : (Cond.instanceMethod ({ cls := "java/lang/IndexOutOfBoundsException", name := "<init>", desc := "(Ljava/lang/String;)V" } : MethodName)) ∈ wsU := zt4 (i := 106) rfl rfl
theorem wm_4_107 : (Cond.code ({ cls := "java/lang/IndexOutOfBoundsException", name := "<init>", desc := "(Ljava/lang/String;)V" } : MethodName) prog_16_method_2_code (2 : Nat) (Option.none : Option ClassFile.FieldType)) ∈ wsU := zt4 (i := 107) rfl rfl
theorem wm_4_108 : (Cond.methodLink "java/lang/IndexOutOfBoundsException" (7 : Nat) ({ cls := "java/lang/RuntimeException", name := "<init>", desc := "(Ljava/lang/String;)V" } : MethodName)) ∈ wsU := zt4 (i := 108) rfl rfl
theorem wm_4_109 : (Cond.lays "java/lang/IndexOutOfBoundsException" "java/lang/Throwable" "depth" "I") ∈ wsU := zt4 (i := 109) rfl rfl
theorem wm_4_110 : (Cond.superclass "java/lang/IndexOutOfBoundsException" "java/lang/RuntimeException") ∈ wsU := zt4 (i := 110) rfl rfl
theorem wm_4_111 : (Cond.methodLink "SupplyContractLaw" (118 : Nat) ({ cls := "SupplyContractLaw", name := "forecastOf", desc := "(LSupplyContract;I[J)I" } : MethodName)) ∈ wsU := zt4 (i := 111) rfl rfl
theorem wm_4_112 : (Cond.static ({ cls := "SupplyContractLaw", name := "forecastOf", desc := "(LSupplyContract;I[J)I" } : MethodName)) ∈ wsU := zt4 (i := 112) rfl rfl
theorem wm_4_114 : (Cond.methodLink "SupplyContractLaw" (20 : Nat) ({ cls := "SupplyContract", name := "forecastOf", desc := "(I)I" } : MethodName)) ∈ wsU := zt4 (i := 114) rfl rfl
theorem wm_4_115 : (Cond.instanceMethod ({ cls := "SupplyContract", name := "forecastOf", desc := "(I)I" } : MethodName)) ∈ wsU := zt4 (i := 115) rfl rfl
theorem wm_4_116 : (Cond.selects "SupplyContract" ({ cls := "SupplyContract", name := "forecastOf", desc := "(I)I" } : MethodName) ({ cls := "SupplyContract", name := "forecastOf", desc := "(I)I" } : MethodName)) ∈ wsU := zt4 (i := 116) rfl rfl
theorem wm_4_117 : (Cond.code ({ cls := "SupplyContract", name := "forecastOf", desc := "(I)I" } : MethodName) prog_1_method_8_code (2 : Nat) (Option.some ClassFile.FieldType.int)) ∈ wsU := zt4 (i := 117) rfl rfl
theorem wm_4_118 : (Cond.methodLink "SupplyContractLaw" (121 : Nat) ({ cls := "SupplyContractLaw", name := "orderOf", desc := "(LSupplyContract;I[J)I" } : MethodName)) ∈ wsU := zt4 (i := 118) rfl rfl
theorem wm_4_119 : (Cond.static ({ cls := "SupplyContractLaw", name := "orderOf", desc := "(LSupplyContract;I[J)I" } : MethodName)) ∈ wsU := zt4 (i := 119) rfl rfl
theorem wm_4_121 : (Cond.methodLink "SupplyContractLaw" (23 : Nat) ({ cls := "SupplyContract", name := "orderOf", desc := "(I)I" } : MethodName)) ∈ wsU := zt4 (i := 121) rfl rfl
theorem wm_4_122 : (Cond.instanceMethod ({ cls := "SupplyContract", name := "orderOf", desc := "(I)I" } : MethodName)) ∈ wsU := zt4 (i := 122) rfl rfl
theorem wm_4_123 : (Cond.selects "SupplyContract" ({ cls := "SupplyContract", name := "orderOf", desc := "(I)I" } : MethodName) ({ cls := "SupplyContract", name := "orderOf", desc := "(I)I" } : MethodName)) ∈ wsU := zt4 (i := 123) rfl rfl
theorem wm_4_124 : (Cond.code ({ cls := "SupplyContract", name := "orderOf", desc := "(I)I" } : MethodName) prog_1_method_9_code (2 : Nat) (Option.some ClassFile.FieldType.int)) ∈ wsU := zt4 (i := 124) rfl rfl
theorem wm_4_125 : (Cond.methodLink "SupplyContractLaw" (124 : Nat) ({ cls := "SupplyContractLaw", name := "openUnits", desc := "(LSupplyContract;I[J)I" } : MethodName)) ∈ wsU := zt4 (i := 125) rfl rfl
theorem wm_4_126 : (Cond.static ({ cls := "SupplyContractLaw", name := "openUnits", desc := "(LSupplyContract;I[J)I" } : MethodName)) ∈ wsU := zt4 (i := 126) rfl rfl
theorem wm_4_128 : (Cond.methodLink "SupplyContractLaw" (26 : Nat) ({ cls := "SupplyContract", name := "openUnits", desc := "(I)I" } : MethodName)) ∈ wsU := zt4 (i := 128) rfl rfl
theorem wm_4_129 : (Cond.instanceMethod ({ cls := "SupplyContract", name := "openUnits", desc := "(I)I" } : MethodName)) ∈ wsU := zt4 (i := 129) rfl rfl
theorem wm_4_130 : (Cond.selects "SupplyContract" ({ cls := "SupplyContract", name := "openUnits", desc := "(I)I" } : MethodName) ({ cls := "SupplyContract", name := "openUnits", desc := "(I)I" } : MethodName)) ∈ wsU := zt4 (i := 130) rfl rfl
theorem wm_4_131 : (Cond.code ({ cls := "SupplyContract", name := "openUnits", desc := "(I)I" } : MethodName) prog_1_method_10_code (2 : Nat) (Option.some ClassFile.FieldType.int)) ∈ wsU := zt4 (i := 131) rfl rfl
theorem wm_4_132 : (Cond.methodLink "SupplyContractLaw" (127 : Nat) ({ cls := "SupplyContractLaw", name := "missedUnits", desc := "(LSupplyContract;I[J)I" } : MethodName)) ∈ wsU := zt4 (i := 132) rfl rfl
theorem wm_4_133 : (Cond.static ({ cls := "SupplyContractLaw", name := "missedUnits", desc := "(LSupplyContract;I[J)I" } : MethodName)) ∈ wsU := zt4 (i := 133) rfl rfl
theorem wm_4_135 : (Cond.methodLink "SupplyContractLaw" (29 : Nat) ({ cls := "SupplyContract", name := "missedUnits", desc := "(I)I" } : MethodName)) ∈ wsU := zt4 (i := 135) rfl rfl
theorem wm_4_136 : (Cond.instanceMethod ({ cls := "SupplyContract", name := "missedUnits", desc := "(I)I" } : MethodName)) ∈ wsU := zt4 (i := 136) rfl rfl
theorem wm_4_137 : (Cond.selects "SupplyContract" ({ cls := "SupplyContract", name := "missedUnits", desc := "(I)I" } : MethodName) ({ cls := "SupplyContract", name := "missedUnits", desc := "(I)I" } : MethodName)) ∈ wsU := zt4 (i := 137) rfl rfl
theorem wm_4_138 : (Cond.code ({ cls := "SupplyContract", name := "missedUnits", desc := "(I)I" } : MethodName) prog_1_method_11_code (2 : Nat) (Option.some ClassFile.FieldType.int)) ∈ wsU := zt4 (i := 138) rfl rfl
theorem wm_4_139 : (Cond.methodLink "SupplyContractLaw" (130 : Nat) ({ cls := "SupplyContractLaw", name := "invoice", desc := "(LSupplyContract;I[J)I" } : MethodName)) ∈ wsU := zt4 (i := 139) rfl rfl
theorem wm_4_140 : (Cond.static ({ cls := "SupplyContractLaw", name := "invoice", desc := "(LSupplyContract;I[J)I" } : MethodName)) ∈ wsU := zt4 (i := 140) rfl rfl
theorem wm_4_142 : (Cond.methodLink "SupplyContractLaw" (32 : Nat) ({ cls := "SupplyContract", name := "invoice", desc := "(I)J" } : MethodName)) ∈ wsU := zt4 (i := 142) rfl rfl
theorem wm_4_143 : (Cond.instanceMethod ({ cls := "SupplyContract", name := "invoice", desc := "(I)J" } : MethodName)) ∈ wsU := zt4 (i := 143) rfl rfl
theorem wm_4_144 : (Cond.selects "SupplyContract" ({ cls := "SupplyContract", name := "invoice", desc := "(I)J" } : MethodName) ({ cls := "SupplyContract", name := "invoice", desc := "(I)J" } : MethodName)) ∈ wsU := zt4 (i := 144) rfl rfl
theorem wm_4_145 : (Cond.code ({ cls := "SupplyContract", name := "invoice", desc := "(I)J" } : MethodName) prog_1_method_12_code (2 : Nat) (Option.some ClassFile.FieldType.long)) ∈ wsU := zt4 (i := 145) rfl rfl
theorem wm_4_146 : (Cond.methodLink "SupplyContractLaw" (137 : Nat) ({ cls := "SupplyContractLaw", name := "bandFor", desc := "(LSupplyContract;I[J)I" } : MethodName)) ∈ wsU := zt4 (i := 146) rfl rfl
theorem wm_4_147 : (Cond.static ({ cls := "SupplyContractLaw", name := "bandFor", desc := "(LSupplyContract;I[J)I" } : MethodName)) ∈ wsU := zt4 (i := 147) rfl rfl
theorem wm_4_149 : (Cond.methodLink "SupplyContractLaw" (36 : Nat) ({ cls := "SupplyContract", name := "bandFor", desc := "(I)I" } : MethodName)) ∈ wsU := zt4 (i := 149) rfl rfl
theorem wm_4_150 : (Cond.instanceMethod ({ cls := "SupplyContract", name := "bandFor", desc := "(I)I" } : MethodName)) ∈ wsU := zt4 (i := 150) rfl rfl
theorem wm_4_151 : (Cond.selects "SupplyContract" ({ cls := "SupplyContract", name := "bandFor", desc := "(I)I" } : MethodName) ({ cls := "SupplyContract", name := "bandFor", desc := "(I)I" } : MethodName)) ∈ wsU := zt4 (i := 151) rfl rfl
theorem wm_4_152 : (Cond.code ({ cls := "SupplyContract", name := "bandFor", desc := "(I)I" } : MethodName) prog_1_method_14_code (2 : Nat) (Option.some ClassFile.FieldType.int)) ∈ wsU := zt4 (i := 152) rfl rfl
theorem wm_4_153 : (Cond.methodLink "SupplyContract" (140 : Nat) ({ cls := "SupplyContract", name := "checkLead", desc := "(I)V" } : MethodName)) ∈ wsU := zt4 (i := 153) rfl rfl
theorem wm_4_155 : (Cond.instanceMethod ({ cls := "SupplyContract", name := "checkLead", desc := "(I)V" } : MethodName)) ∈ wsU := zt4 (i := 155) rfl rfl
theorem wm_4_156 : (Cond.code ({ cls := "SupplyContract", name := "checkLead", desc := "(I)V" } : MethodName) prog_1_method_37_code (2 : Nat) (Option.none : Option ClassFile.FieldType)) ∈ wsU := zt4 (i := 156) rfl rfl
theorem wm_4_158 : (Cond.methodLinkNest "SupplyContract" (143 : Nat) ({ cls := "SupplyContract$Terms", name := "bandLead", desc := "(I)I" } : MethodName) "SupplyContract") ∈ wsU := zt4 (i := 158) rfl rfl
theorem wm_4_160 : (Cond.instanceMethod ({ cls := "SupplyContract$Terms", name := "bandLead", desc := "(I)I" } : MethodName)) ∈ wsU := zt4 (i := 160) rfl rfl
theorem wm_4_161 : (Cond.code ({ cls := "SupplyContract$Terms", name := "bandLead", desc := "(I)I" } : MethodName) prog_9_method_6_code (3 : Nat) (Option.some ClassFile.FieldType.int)) ∈ wsU := zt4 (i := 161) rfl rfl
theorem wm_4_162 : (Cond.methodLink "SupplyContract$Terms" (68 : Nat) ({ cls := "SupplyContract$Terms", name := "hasBand", desc := "(I)Z" } : MethodName)) ∈ wsU := zt4 (i := 162) rfl rfl
theorem wm_4_163 : (Cond.methodLink "SupplyContractLaw" (140 : Nat) ({ cls := "SupplyContractLaw", name := "allowed", desc := "(LSupplyContract;IIZ[J)I" } : MethodName)) ∈ wsU := zt4 (i := 163) rfl rfl
theorem wm_4_164 : (Cond.static ({ cls := "SupplyContractLaw", name := "allowed", desc := "(LSupplyContract;IIZ[J)I" } : MethodName)) ∈ wsU := zt4 (i := 164) rfl rfl
theorem wm_4_166 : (Cond.methodLink "SupplyContractLaw" (39 : Nat) ({ cls := "SupplyContract", name := "allowed", desc := "(IIZ)I" } : MethodName)) ∈ wsU := zt4 (i := 166) rfl rfl
theorem wm_4_167 : (Cond.instanceMethod ({ cls := "SupplyContract", name := "allowed", desc := "(IIZ)I" } : MethodName)) ∈ wsU := zt4 (i := 167) rfl rfl
theorem wm_4_168 : (Cond.selects "SupplyContract" ({ cls := "SupplyContract", name := "allowed", desc := "(IIZ)I" } : MethodName) ({ cls := "SupplyContract", name := "allowed", desc := "(IIZ)I" } : MethodName)) ∈ wsU := zt4 (i := 168) rfl rfl
theorem wm_4_169 : (Cond.code ({ cls := "SupplyContract", name := "allowed", desc := "(IIZ)I" } : MethodName) prog_1_method_15_code (4 : Nat) (Option.some ClassFile.FieldType.int)) ∈ wsU := zt4 (i := 169) rfl rfl
theorem wm_4_170 : (Cond.methodLink "SupplyContract" (146 : Nat) ({ cls := "SupplyContract", name := "checkUnits", desc := "(I)V" } : MethodName)) ∈ wsU := zt4 (i := 170) rfl rfl
theorem wm_4_172 : (Cond.instanceMethod ({ cls := "SupplyContract", name := "checkUnits", desc := "(I)V" } : MethodName)) ∈ wsU := zt4 (i := 172) rfl rfl
theorem wm_4_173 : (Cond.code ({ cls := "SupplyContract", name := "checkUnits", desc := "(I)V" } : MethodName) prog_1_method_38_code (2 : Nat) (Option.none : Option ClassFile.FieldType)) ∈ wsU := zt4 (i := 173) rfl rfl
theorem wm_4_175 : (Cond.methodLinkNest "SupplyContract" (149 : Nat) ({ cls := "SupplyContract$Terms", name := "greatest", desc := "(II)I" } : MethodName) "SupplyContract") ∈ wsU := zt4 (i := 175) rfl rfl
theorem wm_4_177 : (Cond.instanceMethod ({ cls := "SupplyContract$Terms", name := "greatest", desc := "(II)I" } : MethodName)) ∈ wsU := zt4 (i := 177) rfl rfl
theorem wm_4_178 : (Cond.code ({ cls := "SupplyContract$Terms", name := "greatest", desc := "(II)I" } : MethodName) prog_9_method_8_code (4 : Nat) (Option.some ClassFile.FieldType.int)) ∈ wsU := zt4 (i := 178) rfl rfl
theorem wm_4_179 : (Cond.methodLink "SupplyContract$Terms" (72 : Nat) ({ cls := "SupplyContract$Terms", name := "bandLead", desc := "(I)I" } : MethodName)) ∈ wsU := zt4 (i := 179) rfl rfl
theorem wm_4_180 : (Cond.methodLinkNest "SupplyContract" (153 : Nat) ({ cls := "SupplyContract$Terms", name := "smallest", desc := "(II)I" } : MethodName) "SupplyContract") ∈ wsU := zt4 (i := 180) rfl rfl
theorem wm_4_182 : (Cond.instanceMethod ({ cls := "SupplyContract$Terms", name := "smallest", desc := "(II)I" } : MethodName)) ∈ wsU := zt4 (i := 182) rfl rfl
theorem wm_4_183 : (Cond.code ({ cls := "SupplyContract$Terms", name := "smallest", desc := "(II)I" } : MethodName) prog_9_method_7_code (4 : Nat) (Option.some ClassFile.FieldType.int)) ∈ wsU := zt4 (i := 183) rfl rfl
theorem wm_4_184 : (Cond.methodLink "SupplyContractLaw" (144 : Nat) ({ cls := "SupplyContractLaw", name := "penaltyFor", desc := "(LSupplyContract;II[J)I" } : MethodName)) ∈ wsU := zt4 (i := 184) rfl rfl
theorem wm_4_185 : (Cond.static ({ cls := "SupplyContractLaw", name := "penaltyFor", desc := "(LSupplyContract;II[J)I" } : MethodName)) ∈ wsU := zt4 (i := 185) rfl rfl
theorem wm_4_187 : (Cond.methodLink "SupplyContractLaw" (43 : Nat) ({ cls := "SupplyContract", name := "penaltyFor", desc := "(II)I" } : MethodName)) ∈ wsU := zt4 (i := 187) rfl rfl
theorem wm_4_188 : (Cond.instanceMethod ({ cls := "SupplyContract", name := "penaltyFor", desc := "(II)I" } : MethodName)) ∈ wsU := zt4 (i := 188) rfl rfl
theorem wm_4_189 : (Cond.selects "SupplyContract" ({ cls := "SupplyContract", name := "penaltyFor", desc := "(II)I" } : MethodName) ({ cls := "SupplyContract", name := "penaltyFor", desc := "(II)I" } : MethodName)) ∈ wsU := zt4 (i := 189) rfl rfl
theorem wm_4_190 : (Cond.code ({ cls := "SupplyContract", name := "penaltyFor", desc := "(II)I" } : MethodName) prog_1_method_16_code (3 : Nat) (Option.some ClassFile.FieldType.int)) ∈ wsU := zt4 (i := 190) rfl rfl
theorem wm_4_191 : (Cond.methodLinkNest "SupplyContract" (156 : Nat) ({ cls := "SupplyContract$Terms", name := "penalty", desc := "(II)I" } : MethodName) "SupplyContract") ∈ wsU := zt4 (i := 191) rfl rfl
theorem wm_4_193 : (Cond.instanceMethod ({ cls := "SupplyContract$Terms", name := "penalty", desc := "(II)I" } : MethodName)) ∈ wsU := zt4 (i := 193) rfl rfl
theorem wm_4_194 : (Cond.code ({ cls := "SupplyContract$Terms", name := "penalty", desc := "(II)I" } : MethodName) prog_9_method_10_code (6 : Nat) (Option.some ClassFile.FieldType.int)) ∈ wsU := zt4 (i := 194) rfl rfl
theorem wm_4_195 : (Cond.methodLink "SupplyContractLaw" (156 : Nat) ({ cls := "SupplyContractLaw", name := "breachPeriod", desc := "(LSupplyContract;I[J)I" } : MethodName)) ∈ wsU := zt4 (i := 195) rfl rfl
theorem wm_4_196 : (Cond.static ({ cls := "SupplyContractLaw", name := "breachPeriod", desc := "(LSupplyContract;I[J)I" } : MethodName)) ∈ wsU := zt4 (i := 196) rfl rfl
theorem wm_4_198 : (Cond.methodLink "SupplyContractLaw" (47 : Nat) ({ cls := "SupplyContract", name := "breachPeriod", desc := "(I)I" } : MethodName)) ∈ wsU := zt4 (i := 198) rfl rfl
theorem wm_4_199 : (Cond.instanceMethod ({ cls := "SupplyContract", name := "breachPeriod", desc := "(I)I" } : MethodName)) ∈ wsU := zt4 (i := 199) rfl rfl
theorem wm_4_200 : (Cond.selects "SupplyContract" ({ cls := "SupplyContract", name := "breachPeriod", desc := "(I)I" } : MethodName) ({ cls := "SupplyContract", name := "breachPeriod", desc := "(I)I" } : MethodName)) ∈ wsU := zt4 (i := 200) rfl rfl
theorem wm_4_201 : (Cond.code ({ cls := "SupplyContract", name := "breachPeriod", desc := "(I)I" } : MethodName) prog_1_method_19_code (2 : Nat) (Option.some ClassFile.FieldType.int)) ∈ wsU := zt4 (i := 201) rfl rfl
theorem wm_4_202 : (Cond.methodLink "SupplyContract" (165 : Nat) ({ cls := "SupplyContract", name := "checkBreach", desc := "(I)V" } : MethodName)) ∈ wsU := zt4 (i := 202) rfl rfl
theorem wm_4_204 : (Cond.instanceMethod ({ cls := "SupplyContract", name := "checkBreach", desc := "(I)V" } : MethodName)) ∈ wsU := zt4 (i := 204) rfl rfl
theorem wm_4_205 : (Cond.code ({ cls := "SupplyContract", name := "checkBreach", desc := "(I)V" } : MethodName) prog_1_method_36_code (2 : Nat) (Option.none : Option ClassFile.FieldType)) ∈ wsU := zt4 (i := 205) rfl rfl
theorem wm_4_207 : (Cond.methodLink "SupplyContractLaw" (159 : Nat) ({ cls := "SupplyContractLaw", name := "breachKind", desc := "(LSupplyContract;I[J)I" } : MethodName)) ∈ wsU := zt4 (i := 207) rfl rfl
theorem wm_4_208 : (Cond.static ({ cls := "SupplyContractLaw", name := "breachKind", desc := "(LSupplyContract;I[J)I" } : MethodName)) ∈ wsU := zt4 (i := 208) rfl rfl
theorem wm_4_210 : (Cond.methodLink "SupplyContractLaw" (50 : Nat) ({ cls := "SupplyContract", name := "breachKind", desc := "(I)I" } : MethodName)) ∈ wsU := zt4 (i := 210) rfl rfl
theorem wm_4_211 : (Cond.instanceMethod ({ cls := "SupplyContract", name := "breachKind", desc := "(I)I" } : MethodName)) ∈ wsU := zt4 (i := 211) rfl rfl
theorem wm_4_212 : (Cond.selects "SupplyContract" ({ cls := "SupplyContract", name := "breachKind", desc := "(I)I" } : MethodName) ({ cls := "SupplyContract", name := "breachKind", desc := "(I)I" } : MethodName)) ∈ wsU := zt4 (i := 212) rfl rfl
theorem wm_4_213 : (Cond.code ({ cls := "SupplyContract", name := "breachKind", desc := "(I)I" } : MethodName) prog_1_method_20_code (2 : Nat) (Option.some ClassFile.FieldType.int)) ∈ wsU := zt4 (i := 213) rfl rfl
theorem wm_4_214 : (Cond.methodLink "SupplyContractLaw" (162 : Nat) ({ cls := "SupplyContractLaw", name := "breachPenalty", desc := "(LSupplyContract;I[J)I" } : MethodName)) ∈ wsU := zt4 (i := 214) rfl rfl
theorem wm_4_215 : (Cond.static ({ cls := "SupplyContractLaw", name := "breachPenalty", desc := "(LSupplyContract;I[J)I" } : MethodName)) ∈ wsU := zt4 (i := 215) rfl rfl
theorem wm_4_217 : (Cond.methodLink "SupplyContractLaw" (53 : Nat) ({ cls := "SupplyContract", name := "breachPenalty", desc := "(I)I" } : MethodName)) ∈ wsU := zt4 (i := 217) rfl rfl
theorem wm_4_218 : (Cond.instanceMethod ({ cls := "SupplyContract", name := "breachPenalty", desc := "(I)I" } : MethodName)) ∈ wsU := zt4 (i := 218) rfl rfl
theorem wm_4_219 : (Cond.selects "SupplyContract" ({ cls := "SupplyContract", name := "breachPenalty", desc := "(I)I" } : MethodName) ({ cls := "SupplyContract", name := "breachPenalty", desc := "(I)I" } : MethodName)) ∈ wsU := zt4 (i := 219) rfl rfl
theorem wm_4_220 : (Cond.code ({ cls := "SupplyContract", name := "breachPenalty", desc := "(I)I" } : MethodName) prog_1_method_21_code (2 : Nat) (Option.some ClassFile.FieldType.int)) ∈ wsU := zt4 (i := 220) rfl rfl
theorem wm_4_221 : (Cond.methodLink "SupplyContractLaw" (165 : Nat) ({ cls := "SupplyContractLaw", name := "isWaived", desc := "(LSupplyContract;I[J)I" } : MethodName)) ∈ wsU := zt4 (i := 221) rfl rfl
theorem wm_4_222 : (Cond.static ({ cls := "SupplyContractLaw", name := "isWaived", desc := "(LSupplyContract;I[J)I" } : MethodName)) ∈ wsU := zt4 (i := 222) rfl rfl
theorem wm_4_224 : (Cond.methodLink "SupplyContractLaw" (56 : Nat) ({ cls := "SupplyContract", name := "isWaived", desc := "(I)Z" } : MethodName)) ∈ wsU := zt4 (i := 224) rfl rfl
theorem wm_4_225 : (Cond.instanceMethod ({ cls := "SupplyContract", name := "isWaived", desc := "(I)Z" } : MethodName)) ∈ wsU := zt4 (i := 225) rfl rfl
theorem wm_4_226 : (Cond.selects "SupplyContract" ({ cls := "SupplyContract", name := "isWaived", desc := "(I)Z" } : MethodName) ({ cls := "SupplyContract", name := "isWaived", desc := "(I)Z" } : MethodName)) ∈ wsU := zt4 (i := 226) rfl rfl
theorem wm_4_227 : (Cond.code ({ cls := "SupplyContract", name := "isWaived", desc := "(I)Z" } : MethodName) prog_1_method_22_code (2 : Nat) (Option.some ClassFile.FieldType.boolean)) ∈ wsU := zt4 (i := 227) rfl rfl
theorem wm_4_228 : (Cond.methodLink "SupplyContractLaw" (176 : Nat) ({ cls := "SupplyContractLaw", name := "bestWaiver", desc := "(LSupplyContract;I[J)I" } : MethodName)) ∈ wsU := zt4 (i := 228) rfl rfl
theorem wm_4_229 : (Cond.static ({ cls := "SupplyContractLaw", name := "bestWaiver", desc := "(LSupplyContract;I[J)I" } : MethodName)) ∈ wsU := zt4 (i := 229) rfl rfl
theorem wm_4_231 : (Cond.methodLink "SupplyContractLaw" (60 : Nat) ({ cls := "SupplyContract", name := "bestWaiver", desc := "(I)I" } : MethodName)) ∈ wsU := zt4 (i := 231) rfl rfl
theorem wm_4_232 : (Cond.instanceMethod ({ cls := "SupplyContract", name := "bestWaiver", desc := "(I)I" } : MethodName)) ∈ wsU := zt4 (i := 232) rfl rfl
theorem wm_4_233 : (Cond.selects "SupplyContract" ({ cls := "SupplyContract", name := "bestWaiver", desc := "(I)I" } : MethodName) ({ cls := "SupplyContract", name := "bestWaiver", desc := "(I)I" } : MethodName)) ∈ wsU := zt4 (i := 233) rfl rfl
theorem wm_4_234 : (Cond.code ({ cls := "SupplyContract", name := "bestWaiver", desc := "(I)I" } : MethodName) prog_1_method_25_code (2 : Nat) (Option.some ClassFile.FieldType.int)) ∈ wsU := zt4 (i := 234) rfl rfl
theorem wm_4_236 : (Cond.methodLinkNest "SupplyContract" (195 : Nat) ({ cls := "SupplyContract$WaiverSearch", name := "breachAt", desc := "(I)I" } : MethodName) "SupplyContract") ∈ wsU := zt4 (i := 236) rfl rfl
theorem wm_4_238 : (Cond.instanceMethod ({ cls := "SupplyContract$WaiverSearch", name := "breachAt", desc := "(I)I" } : MethodName)) ∈ wsU := zt4 (i := 238) rfl rfl
theorem wm_4_239 : (Cond.code ({ cls := "SupplyContract$WaiverSearch", name := "breachAt", desc := "(I)I" } : MethodName) prog_10_method_5_code (2 : Nat) (Option.some ClassFile.FieldType.int)) ∈ wsU := zt4 (i := 239) rfl rfl
theorem wm_5_0 : (Cond.methodLink "SupplyContractLaw" (183 : Nat) ({ cls := "SupplyContractLaw", name := "bestReserved", desc := "(LSupplyContract;I[J)I" } : MethodName)) ∈ wsU := zt5 (i := 0) rfl rfl
theorem wm_5_1 : (Cond.static ({ cls := "SupplyContractLaw", name := "bestReserved", desc := "(LSupplyContract;I[J)I" } : MethodName)) ∈ wsU := zt5 (i := 1) rfl rfl
theorem wm_5_3 : (Cond.classLink "SupplyContractLaw" (66 : Nat) "java/lang/IllegalStateException") ∈ wsU := zt5 (i := 3) rfl rfl
theorem wm_5_4 : (Cond.methodLink "SupplyContractLaw" (63 : Nat) ({ cls := "SupplyContract", name := "bestReserved", desc := "(I)I" } : MethodName)) ∈ wsU := zt5 (i := 4) rfl rfl
theorem wm_5_5 : (Cond.instanceMethod ({ cls := "SupplyContract", name := "bestReserved", desc := "(I)I" } : MethodName)) ∈ wsU := zt5 (i := 5) rfl rfl
theorem wm_5_6 : (Cond.selects "SupplyContract" ({ cls := "SupplyContract", name := "bestReserved", desc := "(I)I" } : MethodName) ({ cls := "SupplyContract", name := "bestReserved", desc := "(I)I" } : MethodName)) ∈ wsU := zt5 (i := 6) rfl rfl
theorem wm_5_7 : (Cond.code ({ cls := "SupplyContract", name := "bestReserved", desc := "(I)I" } : MethodName) prog_1_method_27_code (2 : Nat) (Option.some ClassFile.FieldType.int)) ∈ wsU := zt5 (i := 7) rfl rfl
theorem wm_5_9 : (Cond.classLink "SupplyContract" (207 : Nat) "java/lang/IllegalStateException") ∈ wsU := zt5 (i := 9) rfl rfl
theorem wm_5_10 : (Cond.instantiable "java/lang/IllegalStateException" (6 : Nat)) ∈ wsU := zt5 (i := 10) rfl rfl
theorem wm_5_11 : (Cond.castable "java/lang/IllegalStateException" "java/lang/IllegalStateException") ∈ wsU := zt5 (i := 11) rfl rfl
theorem wm_5_12 : (Cond.selects "java/lang/IllegalStateException" ({ cls := "java/lang/Throwable", name := "fillInStackTrace", desc := "(I)Ljava/lang/Throwable;" } : MethodName) ({ cls := "java/lang/Throwable", name := "fillInStackTrace", desc := "(I)Ljava/lang/Throwable;" } : MethodName)) ∈ wsU := zt5 (i := 12) rfl rfl
theorem wm_5_13 : (Cond.lays "java/lang/IllegalStateException" "java/lang/Throwable" "cause" "Ljava/lang/Throwable;") ∈ wsU := zt5 (i := 13) rfl rfl
theorem wm_5_14 : (Cond.lays "java/lang/IllegalStateException" "java/lang/Throwable" "stackTrace" "[Ljava/lang/StackTraceElement;") ∈ wsU := zt5 (i := 14) rfl rfl
theorem wm_5_15 : (Cond.lays "java/lang/IllegalStateException" "java/lang/Throwable" "suppressedExceptions" "Ljava/util/List;") ∈ wsU := zt5 (i := 15) rfl rfl
theorem wm_5_16 : (Cond.lays "java/lang/IllegalStateException" "java/lang/Throwable" "detailMessage" "Ljava/lang/String;") ∈ wsU := zt5 (i := 16) rfl rfl
theorem wm_5_17 : (Cond.lays "java/lang/IllegalStateException" "java/lang/Throwable" "backtrace" "Ljava/lang/Object;") ∈ wsU := zt5 (i := 17) rfl rfl
theorem wm_5_19 : (Cond.methodLink "SupplyContract" (211 : Nat) ({ cls := "java/lang/IllegalStateException", name := "<init>", desc := "(Ljava/lang/String;)V" } : MethodName)) ∈ wsU := zt5 (i := 19) rfl rfl
theorem wm_5_20 : (Cond.instanceMethod ({ cls := "java/lang/IllegalStateException", name := "<init>", desc := "(Ljava/lang/String;)V" } : MethodName)) ∈ wsU := zt5 (i := 20) rfl rfl
theorem wm_5_21 : (Cond.code ({ cls := "java/lang/IllegalStateException", name := "<init>", desc := "(Ljava/lang/String;)V" } : MethodName) prog_15_method_2_code (2 : Nat) (Option.none : Option ClassFile.FieldType)) ∈ wsU := zt5 (i := 21) rfl rfl
theorem wm_5_22 : (Cond.methodLink "java/lang/IllegalStateException" (7 : Nat) ({ cls := "java/lang/RuntimeException", name := "<init>", desc := "(Ljava/lang/String;)V" } : MethodName)) ∈ wsU := zt5 (i := 22) rfl rfl
theorem wm_5_23 : (Cond.lays "java/lang/IllegalStateException" "java/lang/Throwable" "depth" "I") ∈ wsU := zt5 (i := 23) rfl rfl
theorem wm_5_24 : (Cond.superclass "java/lang/IllegalStateException" "java/lang/RuntimeException") ∈ wsU := zt5 (i := 24) rfl rfl
theorem wm_5_25 : (Cond.methodLink "SupplyContract" (212 : Nat) ({ cls := "SupplyContract", name := "cheapestLevel", desc := "(I)I" } : MethodName)) ∈ wsU := zt5 (i := 25) rfl rfl
theorem wm_5_27 : (Cond.instanceMethod ({ cls := "SupplyContract", name := "cheapestLevel", desc := "(I)I" } : MethodName)) ∈ wsU := zt5 (i := 27) rfl rfl
theorem wm_5_28 : (Cond.code ({ cls := "SupplyContract", name := "cheapestLevel", desc := "(I)I" } : MethodName) prog_1_method_42_code (8 : Nat) (Option.some ClassFile.FieldType.int)) ∈ wsU := zt5 (i := 28) rfl rfl
theorem wm_5_29 : (Cond.methodLinkNest "SupplyContract" (231 : Nat) ({ cls := "SupplyContract$Accounts", name := "closePeriod", desc := "(LSupplyContract$Terms;)J" } : MethodName) "SupplyContract") ∈ wsU := zt5 (i := 29) rfl rfl
theorem wm_5_30 : (Cond.methodLink "SupplyContract" (284 : Nat) ({ cls := "SupplyContract", name := "costsAtLevel", desc := "(I)J" } : MethodName)) ∈ wsU := zt5 (i := 30) rfl rfl
theorem wm_5_32 : (Cond.instanceMethod ({ cls := "SupplyContract", name := "costsAtLevel", desc := "(I)J" } : MethodName)) ∈ wsU := zt5 (i := 32) rfl rfl
theorem wm_5_33 : (Cond.code ({ cls := "SupplyContract", name := "costsAtLevel", desc := "(I)J" } : MethodName) prog_1_method_43_code (2 : Nat) (Option.some ClassFile.FieldType.long)) ∈ wsU := zt5 (i := 33) rfl rfl
theorem wm_5_34 : (Cond.methodLinkNest "SupplyContract" (234 : Nat) ({ cls := "SupplyContract$Accounts", name := "reserveFrom", desc := "(III)I" } : MethodName) "SupplyContract") ∈ wsU := zt5 (i := 34) rfl rfl
theorem wm_5_36 : (Cond.instanceMethod ({ cls := "SupplyContract$Accounts", name := "reserveFrom", desc := "(III)I" } : MethodName)) ∈ wsU := zt5 (i := 36) rfl rfl
theorem wm_5_37 : (Cond.code ({ cls := "SupplyContract$Accounts", name := "reserveFrom", desc := "(III)I" } : MethodName) prog_2_method_5_code (6 : Nat) (Option.some ClassFile.FieldType.int)) ∈ wsU := zt5 (i := 37) rfl rfl
theorem wm_5_38 : (Cond.methodLink "SupplyContractLaw" (186 : Nat) ({ cls := "SupplyContractLaw", name := "forecast", desc := "(LSupplyContract;II[J)I" } : MethodName)) ∈ wsU := zt5 (i := 38) rfl rfl
theorem wm_5_39 : (Cond.static ({ cls := "SupplyContractLaw", name := "forecast", desc := "(LSupplyContract;II[J)I" } : MethodName)) ∈ wsU := zt5 (i := 39) rfl rfl
theorem wm_5_41 : (Cond.methodLink "SupplyContractLaw" (68 : Nat) ({ cls := "SupplyContract", name := "forecast", desc := "(II)I" } : MethodName)) ∈ wsU := zt5 (i := 41) rfl rfl
theorem wm_5_42 : (Cond.instanceMethod ({ cls := "SupplyContract", name := "forecast", desc := "(II)I" } : MethodName)) ∈ wsU := zt5 (i := 42) rfl rfl
theorem wm_5_43 : (Cond.selects "SupplyContract" ({ cls := "SupplyContract", name := "forecast", desc := "(II)I" } : MethodName) ({ cls := "SupplyContract", name := "forecast", desc := "(II)I" } : MethodName)) ∈ wsU := zt5 (i := 43) rfl rfl
theorem wm_5_44 : (Cond.code ({ cls := "SupplyContract", name := "forecast", desc := "(II)I" } : MethodName) prog_1_method_28_code (5 : Nat) (Option.some ClassFile.FieldType.int)) ∈ wsU := zt5 (i := 44) rfl rfl
theorem wm_5_45 : (Cond.methodLink "SupplyContract" (215 : Nat) ({ cls := "SupplyContract", name := "checkLaterPeriod", desc := "(II)V" } : MethodName)) ∈ wsU := zt5 (i := 45) rfl rfl
theorem wm_5_47 : (Cond.instanceMethod ({ cls := "SupplyContract", name := "checkLaterPeriod", desc := "(II)V" } : MethodName)) ∈ wsU := zt5 (i := 47) rfl rfl
theorem wm_5_48 : (Cond.code ({ cls := "SupplyContract", name := "checkLaterPeriod", desc := "(II)V" } : MethodName) prog_1_method_40_code (3 : Nat) (Option.none : Option ClassFile.FieldType)) ∈ wsU := zt5 (i := 48) rfl rfl
theorem wm_5_50 : (Cond.methodLink "SupplyContract" (219 : Nat) ({ cls := "SupplyContract", name := "recordIfBreach", desc := "(IIII)I" } : MethodName)) ∈ wsU := zt5 (i := 50) rfl rfl
theorem wm_5_52 : (Cond.instanceMethod ({ cls := "SupplyContract", name := "recordIfBreach", desc := "(IIII)I" } : MethodName)) ∈ wsU := zt5 (i := 52) rfl rfl
theorem wm_5_53 : (Cond.code ({ cls := "SupplyContract", name := "recordIfBreach", desc := "(IIII)I" } : MethodName) prog_1_method_41_code (7 : Nat) (Option.some ClassFile.FieldType.int)) ∈ wsU := zt5 (i := 53) rfl rfl
theorem wm_5_54 : (Cond.methodLinkNest "SupplyContract" (278 : Nat) ({ cls := "SupplyContract$Terms", name := "excess", desc := "(III)I" } : MethodName) "SupplyContract") ∈ wsU := zt5 (i := 54) rfl rfl
theorem wm_5_56 : (Cond.instanceMethod ({ cls := "SupplyContract$Terms", name := "excess", desc := "(III)I" } : MethodName)) ∈ wsU := zt5 (i := 56) rfl rfl
theorem wm_5_57 : (Cond.code ({ cls := "SupplyContract$Terms", name := "excess", desc := "(III)I" } : MethodName) prog_9_method_9_code (6 : Nat) (Option.some ClassFile.FieldType.int)) ∈ wsU := zt5 (i := 57) rfl rfl
theorem wm_5_58 : (Cond.methodLink "SupplyContract$Terms" (76 : Nat) ({ cls := "SupplyContract$Terms", name := "smallest", desc := "(II)I" } : MethodName)) ∈ wsU := zt5 (i := 58) rfl rfl
theorem wm_5_59 : (Cond.methodLink "SupplyContract$Terms" (80 : Nat) ({ cls := "SupplyContract$Terms", name := "greatest", desc := "(II)I" } : MethodName)) ∈ wsU := zt5 (i := 59) rfl rfl
theorem wm_5_60 : (Cond.methodLink "SupplyContract$Terms" (83 : Nat) ({ cls := "java/lang/Math", name := "max", desc := "(II)I" } : MethodName)) ∈ wsU := zt5 (i := 60) rfl rfl
theorem wm_5_61 : (Cond.methodLinkNest "SupplyContract" (281 : Nat) ({ cls := "SupplyContract$Breaches", name := "addBreach", desc := "(III)I" } : MethodName) "SupplyContract") ∈ wsU := zt5 (i := 61) rfl rfl
theorem wm_5_63 : (Cond.instanceMethod ({ cls := "SupplyContract$Breaches", name := "addBreach", desc := "(III)I" } : MethodName)) ∈ wsU := zt5 (i := 63) rfl rfl
theorem wm_5_64 : (Cond.code ({ cls := "SupplyContract$Breaches", name := "addBreach", desc := "(III)I" } : MethodName) prog_3_method_3_code (4 : Nat) (Option.some ClassFile.FieldType.int)) ∈ wsU := zt5 (i := 64) rfl rfl
theorem wm_5_65 : (Cond.methodLink "SupplyContractLaw" (189 : Nat) ({ cls := "SupplyContractLaw", name := "order", desc := "(LSupplyContract;I[J)I" } : MethodName)) ∈ wsU := zt5 (i := 65) rfl rfl
theorem wm_5_66 : (Cond.static ({ cls := "SupplyContractLaw", name := "order", desc := "(LSupplyContract;I[J)I" } : MethodName)) ∈ wsU := zt5 (i := 66) rfl rfl
theorem wm_5_68 : (Cond.methodLink "SupplyContractLaw" (71 : Nat) ({ cls := "SupplyContract", name := "order", desc := "(I)I" } : MethodName)) ∈ wsU := zt5 (i := 68) rfl rfl
theorem wm_5_69 : (Cond.instanceMethod ({ cls := "SupplyContract", name := "order", desc := "(I)I" } : MethodName)) ∈ wsU := zt5 (i := 69) rfl rfl
theorem wm_5_70 : (Cond.selects "SupplyContract" ({ cls := "SupplyContract", name := "order", desc := "(I)I" } : MethodName) ({ cls := "SupplyContract", name := "order", desc := "(I)I" } : MethodName)) ∈ wsU := zt5 (i := 70) rfl rfl
theorem wm_5_71 : (Cond.code ({ cls := "SupplyContract", name := "order", desc := "(I)I" } : MethodName) prog_1_method_29_code (3 : Nat) (Option.some ClassFile.FieldType.int)) ∈ wsU := zt5 (i := 71) rfl rfl
theorem wm_5_72 : (Cond.methodLink "SupplyContract" (223 : Nat) ({ cls := "SupplyContract", name := "checkRunning", desc := "()V" } : MethodName)) ∈ wsU := zt5 (i := 72) rfl rfl
theorem wm_5_74 : (Cond.instanceMethod ({ cls := "SupplyContract", name := "checkRunning", desc := "()V" } : MethodName)) ∈ wsU := zt5 (i := 74) rfl rfl
theorem wm_5_75 : (Cond.code ({ cls := "SupplyContract", name := "checkRunning", desc := "()V" } : MethodName) prog_1_method_39_code (1 : Nat) (Option.none : Option ClassFile.FieldType)) ∈ wsU := zt5 (i := 75) rfl rfl
theorem wm_5_78 : (Cond.methodLinkNest "SupplyContract" (228 : Nat) ({ cls := "SupplyContract$Accounts", name := "placeOrder", desc := "(I)V" } : MethodName) "SupplyContract") ∈ wsU := zt5 (i := 78) rfl rfl
theorem wm_5_79 : (Cond.methodLink "SupplyContractLaw" (192 : Nat) ({ cls := "SupplyContractLaw", name := "close", desc := "(LSupplyContract;[J)I" } : MethodName)) ∈ wsU := zt5 (i := 79) rfl rfl
theorem wm_5_80 : (Cond.static ({ cls := "SupplyContractLaw", name := "close", desc := "(LSupplyContract;[J)I" } : MethodName)) ∈ wsU := zt5 (i := 80) rfl rfl
theorem wm_5_82 : (Cond.methodLink "SupplyContractLaw" (74 : Nat) ({ cls := "SupplyContract", name := "close", desc := "()J" } : MethodName)) ∈ wsU := zt5 (i := 82) rfl rfl
theorem wm_5_83 : (Cond.instanceMethod ({ cls := "SupplyContract", name := "close", desc := "()J" } : MethodName)) ∈ wsU := zt5 (i := 83) rfl rfl
theorem wm_5_84 : (Cond.selects "SupplyContract" ({ cls := "SupplyContract", name := "close", desc := "()J" } : MethodName) ({ cls := "SupplyContract", name := "close", desc := "()J" } : MethodName)) ∈ wsU := zt5 (i := 84) rfl rfl
theorem wm_5_85 : (Cond.code ({ cls := "SupplyContract", name := "close", desc := "()J" } : MethodName) prog_1_method_30_code (1 : Nat) (Option.some ClassFile.FieldType.long)) ∈ wsU := zt5 (i := 85) rfl rfl
theorem wm_5_86 : (Cond.methodLink "SupplyContractLaw" (196 : Nat) ({ cls := "SupplyContractLaw", name := "reserve", desc := "(LSupplyContract;II[J)I" } : MethodName)) ∈ wsU := zt5 (i := 86) rfl rfl
theorem wm_5_87 : (Cond.static ({ cls := "SupplyContractLaw", name := "reserve", desc := "(LSupplyContract;II[J)I" } : MethodName)) ∈ wsU := zt5 (i := 87) rfl rfl
theorem wm_5_89 : (Cond.methodLink "SupplyContractLaw" (78 : Nat) ({ cls := "SupplyContract", name := "reserve", desc := "(II)I" } : MethodName)) ∈ wsU := zt5 (i := 89) rfl rfl
theorem wm_5_90 : (Cond.instanceMethod ({ cls := "SupplyContract", name := "reserve", desc := "(II)I" } : MethodName)) ∈ wsU := zt5 (i := 90) rfl rfl
theorem wm_5_91 : (Cond.selects "SupplyContract" ({ cls := "SupplyContract", name := "reserve", desc := "(II)I" } : MethodName) ({ cls := "SupplyContract", name := "reserve", desc := "(II)I" } : MethodName)) ∈ wsU := zt5 (i := 91) rfl rfl
theorem wm_5_92 : (Cond.code ({ cls := "SupplyContract", name := "reserve", desc := "(II)I" } : MethodName) prog_1_method_31_code (3 : Nat) (Option.some ClassFile.FieldType.int)) ∈ wsU := zt5 (i := 92) rfl rfl
theorem wm_5_93 : (Cond.methodLink "SupplyContractLaw" (199 : Nat) ({ cls := "SupplyContractLaw", name := "waive", desc := "(LSupplyContract;I[J)I" } : MethodName)) ∈ wsU := zt5 (i := 93) rfl rfl
theorem wm_5_94 : (Cond.static ({ cls := "SupplyContractLaw", name := "waive", desc := "(LSupplyContract;I[J)I" } : MethodName)) ∈ wsU := zt5 (i := 94) rfl rfl
theorem wm_5_96 : (Cond.methodLink "SupplyContractLaw" (81 : Nat) ({ cls := "SupplyContract", name := "waive", desc := "(I)I" } : MethodName)) ∈ wsU := zt5 (i := 96) rfl rfl
theorem wm_5_97 : (Cond.instanceMethod ({ cls := "SupplyContract", name := "waive", desc := "(I)I" } : MethodName)) ∈ wsU := zt5 (i := 97) rfl rfl
theorem wm_5_98 : (Cond.selects "SupplyContract" ({ cls := "SupplyContract", name := "waive", desc := "(I)I" } : MethodName) ({ cls := "SupplyContract", name := "waive", desc := "(I)I" } : MethodName)) ∈ wsU := zt5 (i := 98) rfl rfl
theorem wm_5_99 : (Cond.code ({ cls := "SupplyContract", name := "waive", desc := "(I)I" } : MethodName) prog_1_method_32_code (2 : Nat) (Option.some ClassFile.FieldType.int)) ∈ wsU := zt5 (i := 99) rfl rfl
theorem wm_5_100 : (Cond.methodLinkNest "SupplyContract" (238 : Nat) ({ cls := "SupplyContract$Breaches", name := "canBeWaived", desc := "(ILSupplyContract$Terms;)Z" } : MethodName) "SupplyContract") ∈ wsU := zt5 (i := 100) rfl rfl
theorem wm_5_102 : (Cond.methodLinkNest "SupplyContract" (244 : Nat) ({ cls := "SupplyContract$Breaches", name := "markWaived", desc := "(I)I" } : MethodName) "SupplyContract") ∈ wsU := zt5 (i := 102) rfl rfl
theorem wm_5_104 : (Cond.instanceMethod ({ cls := "SupplyContract$Breaches", name := "markWaived", desc := "(I)I" } : MethodName)) ∈ wsU := zt5 (i := 104) rfl rfl
theorem wm_5_105 : (Cond.code ({ cls := "SupplyContract$Breaches", name := "markWaived", desc := "(I)I" } : MethodName) prog_3_method_7_code (2 : Nat) (Option.some ClassFile.FieldType.int)) ∈ wsU := zt5 (i := 105) rfl rfl
theorem wm_5_106 : (Cond.classLink "SupplyContractLaw" (85 : Nat) "SupplyContractModel") ∈ wsU := zt5 (i := 106) rfl rfl
theorem wm_5_107 : (Cond.instantiable "SupplyContractModel" (24 : Nat)) ∈ wsU := zt5 (i := 107) rfl rfl
theorem wm_5_108 : (Cond.methodLink "SupplyContractLaw" (87 : Nat) ({ cls := "SupplyContractModel", name := "<init>", desc := "()V" } : MethodName)) ∈ wsU := zt5 (i := 108) rfl rfl
theorem wm_5_109 : (Cond.instanceMethod ({ cls := "SupplyContractModel", name := "<init>", desc := "()V" } : MethodName)) ∈ wsU := zt5 (i := 109) rfl rfl
theorem wm_5_110 : (Cond.code ({ cls := "SupplyContractModel", name := "<init>", desc := "()V" } : MethodName) prog_12_method_1_code (1 : Nat) (Option.none : Option ClassFile.FieldType)) ∈ wsU := zt5 (i := 110) rfl rfl
theorem wm_5_111 : (Cond.methodLink "SupplyContractModel" (3 : Nat) ({ cls := "java/lang/Object", name := "<init>", desc := "()V" } : MethodName)) ∈ wsU := zt5 (i := 111) rfl rfl
theorem wm_5_112 : (Cond.classLink "SupplyContractModel" (26 : Nat) "[[I") ∈ wsU := zt5 (i := 112) rfl rfl
theorem wm_5_113 : (Cond.arrayOver (ClassFile.FieldType.array ClassFile.FieldType.int)) ∈ wsU := zt5 (i := 113) rfl rfl
theorem wm_5_114 : (Cond.classLink "SupplyContractModel" (38 : Nat) "[[J") ∈ wsU := zt5 (i := 114) rfl rfl
theorem wm_5_115 : (Cond.arrayOver (ClassFile.FieldType.array ClassFile.FieldType.long)) ∈ wsU := zt5 (i := 115) rfl rfl
theorem wm_5_116 : (Cond.fieldLink "SupplyContractModel" (52 : Nat) "SupplyContractModel" "thrown" "I") ∈ wsU := zt5 (i := 116) rfl rfl
theorem wm_5_117 : (Cond.fieldLink "SupplyContractModel" (9 : Nat) "SupplyContractModel" "buffer" "[I") ∈ wsU := zt5 (i := 117) rfl rfl
theorem wm_5_118 : (Cond.fieldLink "SupplyContractModel" (55 : Nat) "SupplyContractModel" "bufferLength" "I") ∈ wsU := zt5 (i := 118) rfl rfl
theorem wm_5_119 : (Cond.fieldLink "SupplyContractModel" (58 : Nat) "SupplyContractModel" "textLength" "I") ∈ wsU := zt5 (i := 119) rfl rfl
theorem wm_5_120 : (Cond.fieldLink "SupplyContractModel" (61 : Nat) "SupplyContractModel" "position" "I") ∈ wsU := zt5 (i := 120) rfl rfl
theorem wm_5_121 : (Cond.fieldLink "SupplyContractModel" (68 : Nat) "SupplyContractModel" "error" "I") ∈ wsU := zt5 (i := 121) rfl rfl
theorem wm_5_122 : (Cond.fieldLink "SupplyContractModel" (71 : Nat) "SupplyContractModel" "errorAt" "I") ∈ wsU := zt5 (i := 122) rfl rfl
theorem wm_5_123 : (Cond.fieldLink "SupplyContractModel" (13 : Nat) "SupplyContractModel" "errorOffset" "I") ∈ wsU := zt5 (i := 123) rfl rfl
theorem wm_5_124 : (Cond.fieldLink "SupplyContractModel" (17 : Nat) "SupplyContractModel" "data" "[I") ∈ wsU := zt5 (i := 124) rfl rfl
theorem wm_5_125 : (Cond.fieldLink "SupplyContractModel" (20 : Nat) "SupplyContractModel" "draft" "[I") ∈ wsU := zt5 (i := 125) rfl rfl
theorem wm_5_126 : (Cond.fieldLink "SupplyContractModel" (23 : Nat) "SupplyContractModel" "future" "[I") ∈ wsU := zt5 (i := 126) rfl rfl
theorem wm_5_127 : (Cond.fieldLink "SupplyContractModel" (28 : Nat) "SupplyContractModel" "history" "[[I") ∈ wsU := zt5 (i := 127) rfl rfl
theorem wm_5_128 : (Cond.fieldLink "SupplyContractModel" (31 : Nat) "SupplyContractModel" "invoices" "[J") ∈ wsU := zt5 (i := 128) rfl rfl
theorem wm_5_129 : (Cond.fieldLink "SupplyContractModel" (35 : Nat) "SupplyContractModel" "spare" "[J") ∈ wsU := zt5 (i := 129) rfl rfl
theorem wm_5_130 : (Cond.fieldLink "SupplyContractModel" (40 : Nat) "SupplyContractModel" "invoicesBefore" "[[J") ∈ wsU := zt5 (i := 130) rfl rfl
theorem wm_5_131 : (Cond.fieldLink "SupplyContractModel" (284 : Nat) "SupplyContractModel" "undoDepth" "I") ∈ wsU := zt5 (i := 131) rfl rfl
theorem wm_5_132 : (Cond.fieldLink "SupplyContractModel" (103 : Nat) "SupplyContractModel" "numberStart" "I") ∈ wsU := zt5 (i := 132) rfl rfl
theorem wm_5_133 : (Cond.fieldLink "SupplyContractModel" (111 : Nat) "SupplyContractModel" "nesting" "I") ∈ wsU := zt5 (i := 133) rfl rfl
theorem wm_5_134 : (Cond.fieldLink "SupplyContractModel" (143 : Nat) "SupplyContractModel" "seen" "I") ∈ wsU := zt5 (i := 134) rfl rfl
theorem wm_5_135 : (Cond.fieldLink "SupplyContractModel" (43 : Nat) "SupplyContractModel" "stack" "[J") ∈ wsU := zt5 (i := 135) rfl rfl
theorem wm_5_136 : (Cond.fieldLink "SupplyContractModel" (46 : Nat) "SupplyContractModel" "best" "[I") ∈ wsU := zt5 (i := 136) rfl rfl
theorem wm_5_137 : (Cond.fieldLink "SupplyContractModel" (49 : Nat) "SupplyContractModel" "made" "[I") ∈ wsU := zt5 (i := 137) rfl rfl
theorem wm_5_138 : (Cond.fieldLink "SupplyContractModel" (260 : Nat) "SupplyContractModel" "bestMany" "I") ∈ wsU := zt5 (i := 138) rfl rfl
theorem wm_5_139 : (Cond.fieldLink "SupplyContractModel" (257 : Nat) "SupplyContractModel" "bestSum" "I") ∈ wsU := zt5 (i := 139) rfl rfl
theorem wm_5_140 : (Cond.lays "SupplyContractModel" "SupplyContractModel" "thrown" "I") ∈ wsU := zt5 (i := 140) rfl rfl
theorem wm_5_141 : (Cond.soleField "SupplyContractModel" "thrown") ∈ wsU := zt5 (i := 141) rfl rfl
theorem wm_5_142 : (Cond.laysFinal "SupplyContractModel" "SupplyContractModel" "buffer" "[I") ∈ wsU := zt5 (i := 142) rfl rfl
theorem wm_5_143 : (Cond.soleField "SupplyContractModel" "buffer") ∈ wsU := zt5 (i := 143) rfl rfl
theorem wm_5_144 : (Cond.lays "SupplyContractModel" "SupplyContractModel" "bufferLength" "I") ∈ wsU := zt5 (i := 144) rfl rfl
theorem wm_5_145 : (Cond.soleField "SupplyContractModel" "bufferLength") ∈ wsU := zt5 (i := 145) rfl rfl
theorem wm_5_146 : (Cond.lays "SupplyContractModel" "SupplyContractModel" "textLength" "I") ∈ wsU := zt5 (i := 146) rfl rfl
theorem wm_5_147 : (Cond.soleField "SupplyContractModel" "textLength") ∈ wsU := zt5 (i := 147) rfl rfl
theorem wm_5_148 : (Cond.lays "SupplyContractModel" "SupplyContractModel" "position" "I") ∈ wsU := zt5 (i := 148) rfl rfl
theorem wm_5_149 : (Cond.soleField "SupplyContractModel" "position") ∈ wsU := zt5 (i := 149) rfl rfl
theorem wm_5_150 : (Cond.lays "SupplyContractModel" "SupplyContractModel" "error" "I") ∈ wsU := zt5 (i := 150) rfl rfl
theorem wm_5_151 : (Cond.soleField "SupplyContractModel" "error") ∈ wsU := zt5 (i := 151) rfl rfl
theorem wm_5_152 : (Cond.lays "SupplyContractModel" "SupplyContractModel" "errorAt" "I") ∈ wsU := zt5 (i := 152) rfl rfl
theorem wm_5_153 : (Cond.soleField "SupplyContractModel" "errorAt") ∈ wsU := zt5 (i := 153) rfl rfl
theorem wm_5_154 : (Cond.lays "SupplyContractModel" "SupplyContractModel" "errorOffset" "I") ∈ wsU := zt5 (i := 154) rfl rfl
theorem wm_5_155 : (Cond.soleField "SupplyContractModel" "errorOffset") ∈ wsU := zt5 (i := 155) rfl rfl
theorem wm_5_156 : (Cond.laysFinal "SupplyContractModel" "SupplyContractModel" "data" "[I") ∈ wsU := zt5 (i := 156) rfl rfl
theorem wm_5_157 : (Cond.soleField "SupplyContractModel" "data") ∈ wsU := zt5 (i := 157) rfl rfl
theorem wm_5_158 : (Cond.laysFinal "SupplyContractModel" "SupplyContractModel" "draft" "[I") ∈ wsU := zt5 (i := 158) rfl rfl
theorem wm_5_159 : (Cond.soleField "SupplyContractModel" "draft") ∈ wsU := zt5 (i := 159) rfl rfl
theorem wm_5_160 : (Cond.laysFinal "SupplyContractModel" "SupplyContractModel" "future" "[I") ∈ wsU := zt5 (i := 160) rfl rfl
theorem wm_5_161 : (Cond.soleField "SupplyContractModel" "future") ∈ wsU := zt5 (i := 161) rfl rfl
theorem wm_5_162 : (Cond.laysFinal "SupplyContractModel" "SupplyContractModel" "history" "[[I") ∈ wsU := zt5 (i := 162) rfl rfl
theorem wm_5_163 : (Cond.soleField "SupplyContractModel" "history") ∈ wsU := zt5 (i := 163) rfl rfl
theorem wm_5_164 : (Cond.laysFinal "SupplyContractModel" "SupplyContractModel" "invoices" "[J") ∈ wsU := zt5 (i := 164) rfl rfl
theorem wm_5_165 : (Cond.soleField "SupplyContractModel" "invoices") ∈ wsU := zt5 (i := 165) rfl rfl
theorem wm_5_166 : (Cond.laysFinal "SupplyContractModel" "SupplyContractModel" "spare" "[J") ∈ wsU := zt5 (i := 166) rfl rfl
theorem wm_5_167 : (Cond.soleField "SupplyContractModel" "spare") ∈ wsU := zt5 (i := 167) rfl rfl
theorem wm_5_168 : (Cond.laysFinal "SupplyContractModel" "SupplyContractModel" "invoicesBefore" "[[J") ∈ wsU := zt5 (i := 168) rfl rfl
theorem wm_5_169 : (Cond.soleField "SupplyContractModel" "invoicesBefore") ∈ wsU := zt5 (i := 169) rfl rfl
theorem wm_5_170 : (Cond.lays "SupplyContractModel" "SupplyContractModel" "undoDepth" "I") ∈ wsU := zt5 (i := 170) rfl rfl
theorem wm_5_171 : (Cond.soleField "SupplyContractModel" "undoDepth") ∈ wsU := zt5 (i := 171) rfl rfl
theorem wm_5_172 : (Cond.lays "SupplyContractModel" "SupplyContractModel" "numberStart" "I") ∈ wsU := zt5 (i := 172) rfl rfl
theorem wm_5_173 : (Cond.soleField "SupplyContractModel" "numberStart") ∈ wsU := zt5 (i := 173) rfl rfl
theorem wm_5_174 : (Cond.lays "SupplyContractModel" "SupplyContractModel" "nesting" "I") ∈ wsU := zt5 (i := 174) rfl rfl
theorem wm_5_175 : (Cond.soleField "SupplyContractModel" "nesting") ∈ wsU := zt5 (i := 175) rfl rfl
theorem wm_5_176 : (Cond.lays "SupplyContractModel" "SupplyContractModel" "seen" "I") ∈ wsU := zt5 (i := 176) rfl rfl
theorem wm_5_177 : (Cond.soleField "SupplyContractModel" "seen") ∈ wsU := zt5 (i := 177) rfl rfl
theorem wm_5_178 : (Cond.laysFinal "SupplyContractModel" "SupplyContractModel" "stack" "[J") ∈ wsU := zt5 (i := 178) rfl rfl
theorem wm_5_179 : (Cond.soleField "SupplyContractModel" "stack") ∈ wsU := zt5 (i := 179) rfl rfl
theorem wm_5_180 : (Cond.laysFinal "SupplyContractModel" "SupplyContractModel" "best" "[I") ∈ wsU := zt5 (i := 180) rfl rfl
theorem wm_5_181 : (Cond.soleField "SupplyContractModel" "best") ∈ wsU := zt5 (i := 181) rfl rfl
theorem wm_5_182 : (Cond.laysFinal "SupplyContractModel" "SupplyContractModel" "made" "[I") ∈ wsU := zt5 (i := 182) rfl rfl
theorem wm_5_183 : (Cond.soleField "SupplyContractModel" "made") ∈ wsU := zt5 (i := 183) rfl rfl
theorem wm_5_184 : (Cond.lays "SupplyContractModel" "SupplyContractModel" "bestMany" "I") ∈ wsU := zt5 (i := 184) rfl rfl
theorem wm_5_185 : (Cond.soleField "SupplyContractModel" "bestMany") ∈ wsU := zt5 (i := 185) rfl rfl
theorem wm_5_186 : (Cond.lays "SupplyContractModel" "SupplyContractModel" "bestSum" "I") ∈ wsU := zt5 (i := 186) rfl rfl
theorem wm_5_187 : (Cond.soleField "SupplyContractModel" "bestSum") ∈ wsU := zt5 (i := 187) rfl rfl
theorem wm_5_188 : (Cond.superclass "SupplyContractModel" "java/lang/Object") ∈ wsU := zt5 (i := 188) rfl rfl
theorem wm_5_189 : (Cond.methodLink "SupplyContractLaw" (99 : Nat) ({ cls := "SupplyContractModel", name := "thrown", desc := "()I" } : MethodName)) ∈ wsU := zt5 (i := 189) rfl rfl
theorem wm_5_190 : (Cond.instanceMethod ({ cls := "SupplyContractModel", name := "thrown", desc := "()I" } : MethodName)) ∈ wsU := zt5 (i := 190) rfl rfl
theorem wm_5_191 : (Cond.selects "SupplyContractModel" ({ cls := "SupplyContractModel", name := "thrown", desc := "()I" } : MethodName) ({ cls := "SupplyContractModel", name := "thrown", desc := "()I" } : MethodName)) ∈ wsU := zt5 (i := 191) rfl rfl
theorem wm_5_192 : (Cond.code ({ cls := "SupplyContractModel", name := "thrown", desc := "()I" } : MethodName) prog_12_method_2_code (1 : Nat) (Option.some ClassFile.FieldType.int)) ∈ wsU := zt5 (i := 192) rfl rfl
theorem wm_5_193 : (Cond.methodLink "SupplyContractLaw" (92 : Nat) ({ cls := "SupplyContractModel", name := "append", desc := "(IIIII)I" } : MethodName)) ∈ wsU := zt5 (i := 193) rfl rfl
theorem wm_5_194 : (Cond.instanceMethod ({ cls := "SupplyContractModel", name := "append", desc := "(IIIII)I" } : MethodName)) ∈ wsU := zt5 (i := 194) rfl rfl
theorem wm_5_195 : (Cond.selects "SupplyContractModel" ({ cls := "SupplyContractModel", name := "append", desc := "(IIIII)I" } : MethodName) ({ cls := "SupplyContractModel", name := "append", desc := "(IIIII)I" } : MethodName)) ∈ wsU := zt5 (i := 195) rfl rfl
theorem wm_5_196 : (Cond.code ({ cls := "SupplyContractModel", name := "append", desc := "(IIIII)I" } : MethodName) prog_12_method_13_code (8 : Nat) (Option.some ClassFile.FieldType.int)) ∈ wsU := zt5 (i := 196) rfl rfl
theorem wm_5_197 : (Cond.methodLink "SupplyContractLaw" (98 : Nat) ({ cls := "SupplyContractModel", name := "load", desc := "(I)I" } : MethodName)) ∈ wsU := zt5 (i := 197) rfl rfl
theorem wm_5_198 : (Cond.instanceMethod ({ cls := "SupplyContractModel", name := "load", desc := "(I)I" } : MethodName)) ∈ wsU := zt5 (i := 198) rfl rfl
theorem wm_5_199 : (Cond.selects "SupplyContractModel" ({ cls := "SupplyContractModel", name := "load", desc := "(I)I" } : MethodName) ({ cls := "SupplyContractModel", name := "load", desc := "(I)I" } : MethodName)) ∈ wsU := zt5 (i := 199) rfl rfl
theorem wm_5_200 : (Cond.code ({ cls := "SupplyContractModel", name := "load", desc := "(I)I" } : MethodName) prog_12_method_31_code (3 : Nat) (Option.some ClassFile.FieldType.int)) ∈ wsU := zt5 (i := 200) rfl rfl
theorem wm_5_201 : (Cond.methodLink "SupplyContractModel" (74 : Nat) ({ cls := "SupplyContractModel", name := "in", desc := "(III)Z" } : MethodName)) ∈ wsU := zt5 (i := 201) rfl rfl
theorem wm_5_202 : (Cond.static ({ cls := "SupplyContractModel", name := "in", desc := "(III)Z" } : MethodName)) ∈ wsU := zt5 (i := 202) rfl rfl
theorem wm_5_203 : (Cond.code ({ cls := "SupplyContractModel", name := "in", desc := "(III)Z" } : MethodName) prog_12_method_4_code (3 : Nat) (Option.some ClassFile.FieldType.boolean)) ∈ wsU := zt5 (i := 203) rfl rfl
theorem wm_5_204 : (Cond.methodLink "SupplyContractModel" (177 : Nat) ({ cls := "SupplyContractModel", name := "fails", desc := "(ZI)Z" } : MethodName)) ∈ wsU := zt5 (i := 204) rfl rfl
theorem wm_5_206 : (Cond.instanceMethod ({ cls := "SupplyContractModel", name := "fails", desc := "(ZI)Z" } : MethodName)) ∈ wsU := zt5 (i := 206) rfl rfl
theorem wm_5_207 : (Cond.code ({ cls := "SupplyContractModel", name := "fails", desc := "(ZI)Z" } : MethodName) prog_12_method_3_code (3 : Nat) (Option.some ClassFile.FieldType.boolean)) ∈ wsU := zt5 (i := 207) rfl rfl
theorem wm_5_208 : (Cond.methodLink "SupplyContractModel" (181 : Nat) ({ cls := "SupplyContractModel", name := "readContract", desc := "()V" } : MethodName)) ∈ wsU := zt5 (i := 208) rfl rfl
theorem wm_5_210 : (Cond.instanceMethod ({ cls := "SupplyContractModel", name := "readContract", desc := "()V" } : MethodName)) ∈ wsU := zt5 (i := 210) rfl rfl
theorem wm_5_211 : (Cond.code ({ cls := "SupplyContractModel", name := "readContract", desc := "()V" } : MethodName) prog_12_method_27_code (3 : Nat) (Option.none : Option ClassFile.FieldType)) ∈ wsU := zt5 (i := 211) rfl rfl
theorem wm_5_213 : (Cond.methodLink "SupplyContractModel" (123 : Nat) ({ cls := "SupplyContractModel", name := "takeWord", desc := "(Ljava/lang/String;)Z" } : MethodName)) ∈ wsU := zt5 (i := 213) rfl rfl
theorem wm_5_215 : (Cond.instanceMethod ({ cls := "SupplyContractModel", name := "takeWord", desc := "(Ljava/lang/String;)Z" } : MethodName)) ∈ wsU := zt5 (i := 215) rfl rfl
theorem wm_5_216 : (Cond.code ({ cls := "SupplyContractModel", name := "takeWord", desc := "(Ljava/lang/String;)Z" } : MethodName) prog_12_method_19_code (3 : Nat) (Option.some ClassFile.FieldType.boolean)) ∈ wsU := zt5 (i := 216) rfl rfl
theorem wm_5_217 : (Cond.methodLink "SupplyContractModel" (78 : Nat) ({ cls := "SupplyContractModel", name := "isGood", desc := "()Z" } : MethodName)) ∈ wsU := zt5 (i := 217) rfl rfl
theorem wm_5_219 : (Cond.instanceMethod ({ cls := "SupplyContractModel", name := "isGood", desc := "()Z" } : MethodName)) ∈ wsU := zt5 (i := 219) rfl rfl
theorem wm_5_220 : (Cond.code ({ cls := "SupplyContractModel", name := "isGood", desc := "()Z" } : MethodName) prog_12_method_16_code (1 : Nat) (Option.some ClassFile.FieldType.boolean)) ∈ wsU := zt5 (i := 220) rfl rfl
theorem wm_5_221 : (Cond.methodLink "SupplyContractModel" (82 : Nat) ({ cls := "SupplyContractModel", name := "next", desc := "()I" } : MethodName)) ∈ wsU := zt5 (i := 221) rfl rfl
theorem wm_5_223 : (Cond.instanceMethod ({ cls := "SupplyContractModel", name := "next", desc := "()I" } : MethodName)) ∈ wsU := zt5 (i := 223) rfl rfl
theorem wm_5_224 : (Cond.code ({ cls := "SupplyContractModel", name := "next", desc := "()I" } : MethodName) prog_12_method_15_code (1 : Nat) (Option.some ClassFile.FieldType.int)) ∈ wsU := zt5 (i := 224) rfl rfl
theorem wm_5_225 : (Cond.methodLink "SupplyContractModel" (64 : Nat) ({ cls := "SupplyContractModel", name := "byteAt", desc := "(I)I" } : MethodName)) ∈ wsU := zt5 (i := 225) rfl rfl
theorem wm_5_227 : (Cond.instanceMethod ({ cls := "SupplyContractModel", name := "byteAt", desc := "(I)I" } : MethodName)) ∈ wsU := zt5 (i := 227) rfl rfl
theorem wm_5_228 : (Cond.code ({ cls := "SupplyContractModel", name := "byteAt", desc := "(I)I" } : MethodName) prog_12_method_14_code (2 : Nat) (Option.some ClassFile.FieldType.int)) ∈ wsU := zt5 (i := 228) rfl rfl
theorem wm_5_229 : (Cond.methodLink "SupplyContractModel" (86 : Nat) ({ cls := "java/lang/String", name := "length", desc := "()I" } : MethodName)) ∈ wsU := zt5 (i := 229) rfl rfl
theorem wm_5_230 : (Cond.methodLink "SupplyContractModel" (91 : Nat) ({ cls := "java/lang/String", name := "charAt", desc := "(I)C" } : MethodName)) ∈ wsU := zt5 (i := 230) rfl rfl
theorem wm_5_231 : (Cond.methodLink "SupplyContractModel" (95 : Nat) ({ cls := "SupplyContractModel", name := "report", desc := "(II)V" } : MethodName)) ∈ wsU := zt5 (i := 231) rfl rfl
theorem wm_5_233 : (Cond.instanceMethod ({ cls := "SupplyContractModel", name := "report", desc := "(II)V" } : MethodName)) ∈ wsU := zt5 (i := 233) rfl rfl
theorem wm_5_234 : (Cond.code ({ cls := "SupplyContractModel", name := "report", desc := "(II)V" } : MethodName) prog_12_method_17_code (3 : Nat) (Option.none : Option ClassFile.FieldType)) ∈ wsU := zt5 (i := 234) rfl rfl
theorem wm_5_235 : (Cond.methodLink "SupplyContractModel" (131 : Nat) ({ cls := "SupplyContractModel", name := "number", desc := "(II)I" } : MethodName)) ∈ wsU := zt5 (i := 235) rfl rfl
theorem wm_5_237 : (Cond.instanceMethod ({ cls := "SupplyContractModel", name := "number", desc := "(II)I" } : MethodName)) ∈ wsU := zt5 (i := 237) rfl rfl
theorem wm_5_238 : (Cond.code ({ cls := "SupplyContractModel", name := "number", desc := "(II)I" } : MethodName) prog_12_method_21_code (4 : Nat) (Option.some ClassFile.FieldType.int)) ∈ wsU := zt5 (i := 238) rfl rfl
theorem wm_5_239 : (Cond.methodLink "SupplyContractModel" (99 : Nat) ({ cls := "SupplyContractModel", name := "isDigit", desc := "(I)Z" } : MethodName)) ∈ wsU := zt5 (i := 239) rfl rfl
theorem wm_6_0 : (Cond.static ({ cls := "SupplyContractModel", name := "isDigit", desc := "(I)Z" } : MethodName)) ∈ wsU := zt6 (i := 0) rfl rfl
theorem wm_6_1 : (Cond.code ({ cls := "SupplyContractModel", name := "isDigit", desc := "(I)Z" } : MethodName) prog_12_method_18_code (1 : Nat) (Option.some ClassFile.FieldType.boolean)) ∈ wsU := zt6 (i := 1) rfl rfl
theorem wm_6_2 : (Cond.constant "SupplyContractModel" (106 : Nat) (1000000 : Int32)) ∈ wsU := zt6 (i := 2) rfl rfl
theorem wm_6_3 : (Cond.methodLink "SupplyContractModel" (107 : Nat) ({ cls := "SupplyContractModel", name := "min", desc := "(II)I" } : MethodName)) ∈ wsU := zt6 (i := 3) rfl rfl
theorem wm_6_4 : (Cond.static ({ cls := "SupplyContractModel", name := "min", desc := "(II)I" } : MethodName)) ∈ wsU := zt6 (i := 4) rfl rfl
theorem wm_6_5 : (Cond.code ({ cls := "SupplyContractModel", name := "min", desc := "(II)I" } : MethodName) prog_12_method_5_code (2 : Nat) (Option.some ClassFile.FieldType.int)) ∈ wsU := zt6 (i := 5) rfl rfl
theorem wm_6_6 : (Cond.methodLink "SupplyContractModel" (117 : Nat) ({ cls := "SupplyContractModel", name := "expect", desc := "(I)V" } : MethodName)) ∈ wsU := zt6 (i := 6) rfl rfl
theorem wm_6_8 : (Cond.instanceMethod ({ cls := "SupplyContractModel", name := "expect", desc := "(I)V" } : MethodName)) ∈ wsU := zt6 (i := 8) rfl rfl
theorem wm_6_9 : (Cond.code ({ cls := "SupplyContractModel", name := "expect", desc := "(I)V" } : MethodName) prog_12_method_20_code (2 : Nat) (Option.none : Option ClassFile.FieldType)) ∈ wsU := zt6 (i := 9) rfl rfl
theorem wm_6_10 : (Cond.methodLink "SupplyContractModel" (148 : Nat) ({ cls := "SupplyContractModel", name := "period", desc := "(I)I" } : MethodName)) ∈ wsU := zt6 (i := 10) rfl rfl
theorem wm_6_11 : (Cond.static ({ cls := "SupplyContractModel", name := "period", desc := "(I)I" } : MethodName)) ∈ wsU := zt6 (i := 11) rfl rfl
theorem wm_6_12 : (Cond.code ({ cls := "SupplyContractModel", name := "period", desc := "(I)I" } : MethodName) prog_12_method_10_code (1 : Nat) (Option.some ClassFile.FieldType.int)) ∈ wsU := zt6 (i := 12) rfl rfl
theorem wm_6_13 : (Cond.methodLink "SupplyContractModel" (184 : Nat) ({ cls := "SupplyContractModel", name := "statement", desc := "()V" } : MethodName)) ∈ wsU := zt6 (i := 13) rfl rfl
theorem wm_6_15 : (Cond.instanceMethod ({ cls := "SupplyContractModel", name := "statement", desc := "()V" } : MethodName)) ∈ wsU := zt6 (i := 15) rfl rfl
theorem wm_6_16 : (Cond.code ({ cls := "SupplyContractModel", name := "statement", desc := "()V" } : MethodName) prog_12_method_30_code (2 : Nat) (Option.none : Option ClassFile.FieldType)) ∈ wsU := zt6 (i := 16) rfl rfl
theorem wm_6_18 : (Cond.methodLink "SupplyContractModel" (155 : Nat) ({ cls := "SupplyContractModel", name := "once", desc := "(II)V" } : MethodName)) ∈ wsU := zt6 (i := 18) rfl rfl
theorem wm_6_20 : (Cond.instanceMethod ({ cls := "SupplyContractModel", name := "once", desc := "(II)V" } : MethodName)) ∈ wsU := zt6 (i := 20) rfl rfl
theorem wm_6_21 : (Cond.code ({ cls := "SupplyContractModel", name := "once", desc := "(II)V" } : MethodName) prog_12_method_26_code (3 : Nat) (Option.none : Option ClassFile.FieldType)) ∈ wsU := zt6 (i := 21) rfl rfl
theorem wm_6_23 : (Cond.methodLink "SupplyContractModel" (159 : Nat) ({ cls := "SupplyContractModel", name := "readBand", desc := "()V" } : MethodName)) ∈ wsU := zt6 (i := 23) rfl rfl
theorem wm_6_25 : (Cond.instanceMethod ({ cls := "SupplyContractModel", name := "readBand", desc := "()V" } : MethodName)) ∈ wsU := zt6 (i := 25) rfl rfl
theorem wm_6_26 : (Cond.code ({ cls := "SupplyContractModel", name := "readBand", desc := "()V" } : MethodName) prog_12_method_28_code (4 : Nat) (Option.none : Option ClassFile.FieldType)) ∈ wsU := zt6 (i := 26) rfl rfl
theorem wm_6_27 : (Cond.methodLink "SupplyContractModel" (150 : Nat) ({ cls := "SupplyContractModel", name := "band", desc := "(I)I" } : MethodName)) ∈ wsU := zt6 (i := 27) rfl rfl
theorem wm_6_28 : (Cond.static ({ cls := "SupplyContractModel", name := "band", desc := "(I)I" } : MethodName)) ∈ wsU := zt6 (i := 28) rfl rfl
theorem wm_6_29 : (Cond.code ({ cls := "SupplyContractModel", name := "band", desc := "(I)I" } : MethodName) prog_12_method_12_code (1 : Nat) (Option.some ClassFile.FieldType.int)) ∈ wsU := zt6 (i := 29) rfl rfl
theorem wm_6_31 : (Cond.methodLink "SupplyContractModel" (164 : Nat) ({ cls := "SupplyContractModel", name := "readLadder", desc := "()V" } : MethodName)) ∈ wsU := zt6 (i := 31) rfl rfl
theorem wm_6_33 : (Cond.instanceMethod ({ cls := "SupplyContractModel", name := "readLadder", desc := "()V" } : MethodName)) ∈ wsU := zt6 (i := 33) rfl rfl
theorem wm_6_34 : (Cond.code ({ cls := "SupplyContractModel", name := "readLadder", desc := "()V" } : MethodName) prog_12_method_29_code (4 : Nat) (Option.none : Option ClassFile.FieldType)) ∈ wsU := zt6 (i := 34) rfl rfl
theorem wm_6_40 : (Cond.methodLink "SupplyContractModel" (114 : Nat) ({ cls := "SupplyContractModel", name := "sum", desc := "()V" } : MethodName)) ∈ wsU := zt6 (i := 40) rfl rfl
theorem wm_6_42 : (Cond.instanceMethod ({ cls := "SupplyContractModel", name := "sum", desc := "()V" } : MethodName)) ∈ wsU := zt6 (i := 42) rfl rfl
theorem wm_6_43 : (Cond.code ({ cls := "SupplyContractModel", name := "sum", desc := "()V" } : MethodName) prog_12_method_25_code (2 : Nat) (Option.none : Option ClassFile.FieldType)) ∈ wsU := zt6 (i := 43) rfl rfl
theorem wm_6_44 : (Cond.methodLink "SupplyContractModel" (140 : Nat) ({ cls := "SupplyContractModel", name := "term", desc := "()V" } : MethodName)) ∈ wsU := zt6 (i := 44) rfl rfl
theorem wm_6_46 : (Cond.instanceMethod ({ cls := "SupplyContractModel", name := "term", desc := "()V" } : MethodName)) ∈ wsU := zt6 (i := 46) rfl rfl
theorem wm_6_47 : (Cond.code ({ cls := "SupplyContractModel", name := "term", desc := "()V" } : MethodName) prog_12_method_24_code (2 : Nat) (Option.none : Option ClassFile.FieldType)) ∈ wsU := zt6 (i := 47) rfl rfl
theorem wm_6_48 : (Cond.methodLink "SupplyContractModel" (137 : Nat) ({ cls := "SupplyContractModel", name := "factor", desc := "()V" } : MethodName)) ∈ wsU := zt6 (i := 48) rfl rfl
theorem wm_6_50 : (Cond.instanceMethod ({ cls := "SupplyContractModel", name := "factor", desc := "()V" } : MethodName)) ∈ wsU := zt6 (i := 50) rfl rfl
theorem wm_6_51 : (Cond.code ({ cls := "SupplyContractModel", name := "factor", desc := "()V" } : MethodName) prog_12_method_23_code (4 : Nat) (Option.none : Option ClassFile.FieldType)) ∈ wsU := zt6 (i := 51) rfl rfl
theorem wm_6_55 : (Cond.methodLink "SupplyContractModel" (134 : Nat) ({ cls := "SupplyContractModel", name := "emit", desc := "(I)V" } : MethodName)) ∈ wsU := zt6 (i := 55) rfl rfl
theorem wm_6_57 : (Cond.instanceMethod ({ cls := "SupplyContractModel", name := "emit", desc := "(I)V" } : MethodName)) ∈ wsU := zt6 (i := 57) rfl rfl
theorem wm_6_58 : (Cond.code ({ cls := "SupplyContractModel", name := "emit", desc := "(I)V" } : MethodName) prog_12_method_22_code (2 : Nat) (Option.none : Option ClassFile.FieldType)) ∈ wsU := zt6 (i := 58) rfl rfl
theorem wm_6_59 : (Cond.methodLink "SupplyContractModel" (187 : Nat) ({ cls := "SupplyContractModel", name := "demand", desc := "(I)I" } : MethodName)) ∈ wsU := zt6 (i := 59) rfl rfl
theorem wm_6_61 : (Cond.instanceMethod ({ cls := "SupplyContractModel", name := "demand", desc := "(I)I" } : MethodName)) ∈ wsU := zt6 (i := 61) rfl rfl
theorem wm_6_62 : (Cond.code ({ cls := "SupplyContractModel", name := "demand", desc := "(I)I" } : MethodName) prog_12_method_35_code (7 : Nat) (Option.some ClassFile.FieldType.int)) ∈ wsU := zt6 (i := 62) rfl rfl
theorem wm_6_63 : (Cond.methodLink "SupplyContractModel" (204 : Nat) ({ cls := "SupplyContractModel", name := "operate", desc := "(IJJ)J" } : MethodName)) ∈ wsU := zt6 (i := 63) rfl rfl
theorem wm_6_64 : (Cond.static ({ cls := "SupplyContractModel", name := "operate", desc := "(IJJ)J" } : MethodName)) ∈ wsU := zt6 (i := 64) rfl rfl
theorem wm_6_65 : (Cond.code ({ cls := "SupplyContractModel", name := "operate", desc := "(IJJ)J" } : MethodName) prog_12_method_34_code (5 : Nat) (Option.some ClassFile.FieldType.long)) ∈ wsU := zt6 (i := 65) rfl rfl
theorem wm_6_66 : (Cond.methodLink "SupplyContractModel" (200 : Nat) ({ cls := "SupplyContractModel", name := "limited", desc := "(J)J" } : MethodName)) ∈ wsU := zt6 (i := 66) rfl rfl
theorem wm_6_67 : (Cond.static ({ cls := "SupplyContractModel", name := "limited", desc := "(J)J" } : MethodName)) ∈ wsU := zt6 (i := 67) rfl rfl
theorem wm_6_68 : (Cond.code ({ cls := "SupplyContractModel", name := "limited", desc := "(J)J" } : MethodName) prog_12_method_33_code (2 : Nat) (Option.some ClassFile.FieldType.long)) ∈ wsU := zt6 (i := 68) rfl rfl
theorem wm_6_69 : (Cond.constantLong "SupplyContractModel" (196 : Nat) (1000000 : Int64)) ∈ wsU := zt6 (i := 69) rfl rfl
theorem wm_6_70 : (Cond.constantLong "SupplyContractModel" (198 : Nat) (-1000000 : Int64)) ∈ wsU := zt6 (i := 70) rfl rfl
theorem wm_6_71 : (Cond.constantLong "SupplyContractModel" (208 : Nat) (9999 : Int64)) ∈ wsU := zt6 (i := 71) rfl rfl
theorem wm_6_72 : (Cond.methodLink "SupplyContractModel" (189 : Nat) ({ cls := "SupplyContractModel", name := "remember", desc := "()V" } : MethodName)) ∈ wsU := zt6 (i := 72) rfl rfl
theorem wm_6_74 : (Cond.instanceMethod ({ cls := "SupplyContractModel", name := "remember", desc := "()V" } : MethodName)) ∈ wsU := zt6 (i := 74) rfl rfl
theorem wm_6_75 : (Cond.code ({ cls := "SupplyContractModel", name := "remember", desc := "()V" } : MethodName) prog_12_method_78_code (2 : Nat) (Option.none : Option ClassFile.FieldType)) ∈ wsU := zt6 (i := 75) rfl rfl
theorem wm_6_76 : (Cond.methodLink "SupplyContractModel" (192 : Nat) ({ cls := "SupplyContractModel", name := "copy", desc := "([I[I)V" } : MethodName)) ∈ wsU := zt6 (i := 76) rfl rfl
theorem wm_6_77 : (Cond.static ({ cls := "SupplyContractModel", name := "copy", desc := "([I[I)V" } : MethodName)) ∈ wsU := zt6 (i := 77) rfl rfl
theorem wm_6_78 : (Cond.code ({ cls := "SupplyContractModel", name := "copy", desc := "([I[I)V" } : MethodName) prog_12_method_8_code (3 : Nat) (Option.none : Option ClassFile.FieldType)) ∈ wsU := zt6 (i := 78) rfl rfl
theorem wm_6_79 : (Cond.methodLink "SupplyContractModel" (287 : Nat) ({ cls := "SupplyContractModel", name := "copyLongs", desc := "([J[J)V" } : MethodName)) ∈ wsU := zt6 (i := 79) rfl rfl
theorem wm_6_80 : (Cond.static ({ cls := "SupplyContractModel", name := "copyLongs", desc := "([J[J)V" } : MethodName)) ∈ wsU := zt6 (i := 80) rfl rfl
theorem wm_6_81 : (Cond.code ({ cls := "SupplyContractModel", name := "copyLongs", desc := "([J[J)V" } : MethodName) prog_12_method_9_code (3 : Nat) (Option.none : Option ClassFile.FieldType)) ∈ wsU := zt6 (i := 81) rfl rfl
theorem wm_6_82 : (Cond.methodLink "SupplyContractLaw" (106 : Nat) ({ cls := "SupplyContractModel", name := "errorOffset", desc := "()I" } : MethodName)) ∈ wsU := zt6 (i := 82) rfl rfl
theorem wm_6_83 : (Cond.instanceMethod ({ cls := "SupplyContractModel", name := "errorOffset", desc := "()I" } : MethodName)) ∈ wsU := zt6 (i := 83) rfl rfl
theorem wm_6_84 : (Cond.selects "SupplyContractModel" ({ cls := "SupplyContractModel", name := "errorOffset", desc := "()I" } : MethodName) ({ cls := "SupplyContractModel", name := "errorOffset", desc := "()I" } : MethodName)) ∈ wsU := zt6 (i := 84) rfl rfl
theorem wm_6_85 : (Cond.code ({ cls := "SupplyContractModel", name := "errorOffset", desc := "()I" } : MethodName) prog_12_method_32_code (1 : Nat) (Option.some ClassFile.FieldType.int)) ∈ wsU := zt6 (i := 85) rfl rfl
theorem wm_6_86 : (Cond.methodLink "SupplyContractLaw" (110 : Nat) ({ cls := "SupplyContractModel", name := "periodCount", desc := "()I" } : MethodName)) ∈ wsU := zt6 (i := 86) rfl rfl
theorem wm_6_87 : (Cond.instanceMethod ({ cls := "SupplyContractModel", name := "periodCount", desc := "()I" } : MethodName)) ∈ wsU := zt6 (i := 87) rfl rfl
theorem wm_6_88 : (Cond.selects "SupplyContractModel" ({ cls := "SupplyContractModel", name := "periodCount", desc := "()I" } : MethodName) ({ cls := "SupplyContractModel", name := "periodCount", desc := "()I" } : MethodName)) ∈ wsU := zt6 (i := 88) rfl rfl
theorem wm_6_89 : (Cond.code ({ cls := "SupplyContractModel", name := "periodCount", desc := "()I" } : MethodName) prog_12_method_48_code (1 : Nat) (Option.some ClassFile.FieldType.int)) ∈ wsU := zt6 (i := 89) rfl rfl
theorem wm_6_90 : (Cond.methodLink "SupplyContractLaw" (114 : Nat) ({ cls := "SupplyContractModel", name := "clock", desc := "()I" } : MethodName)) ∈ wsU := zt6 (i := 90) rfl rfl
theorem wm_6_91 : (Cond.instanceMethod ({ cls := "SupplyContractModel", name := "clock", desc := "()I" } : MethodName)) ∈ wsU := zt6 (i := 91) rfl rfl
theorem wm_6_92 : (Cond.selects "SupplyContractModel" ({ cls := "SupplyContractModel", name := "clock", desc := "()I" } : MethodName) ({ cls := "SupplyContractModel", name := "clock", desc := "()I" } : MethodName)) ∈ wsU := zt6 (i := 92) rfl rfl
theorem wm_6_93 : (Cond.code ({ cls := "SupplyContractModel", name := "clock", desc := "()I" } : MethodName) prog_12_method_49_code (1 : Nat) (Option.some ClassFile.FieldType.int)) ∈ wsU := zt6 (i := 93) rfl rfl
theorem wm_6_94 : (Cond.methodLink "SupplyContractLaw" (117 : Nat) ({ cls := "SupplyContractModel", name := "reservedIn", desc := "(I)I" } : MethodName)) ∈ wsU := zt6 (i := 94) rfl rfl
theorem wm_6_95 : (Cond.instanceMethod ({ cls := "SupplyContractModel", name := "reservedIn", desc := "(I)I" } : MethodName)) ∈ wsU := zt6 (i := 95) rfl rfl
theorem wm_6_96 : (Cond.selects "SupplyContractModel" ({ cls := "SupplyContractModel", name := "reservedIn", desc := "(I)I" } : MethodName) ({ cls := "SupplyContractModel", name := "reservedIn", desc := "(I)I" } : MethodName)) ∈ wsU := zt6 (i := 96) rfl rfl
theorem wm_6_97 : (Cond.code ({ cls := "SupplyContractModel", name := "reservedIn", desc := "(I)I" } : MethodName) prog_12_method_50_code (2 : Nat) (Option.some ClassFile.FieldType.int)) ∈ wsU := zt6 (i := 97) rfl rfl
theorem wm_6_98 : (Cond.methodLink "SupplyContractModel" (237 : Nat) ({ cls := "SupplyContractModel", name := "noPeriod", desc := "(I)Z" } : MethodName)) ∈ wsU := zt6 (i := 98) rfl rfl
theorem wm_6_100 : (Cond.instanceMethod ({ cls := "SupplyContractModel", name := "noPeriod", desc := "(I)Z" } : MethodName)) ∈ wsU := zt6 (i := 100) rfl rfl
theorem wm_6_101 : (Cond.code ({ cls := "SupplyContractModel", name := "noPeriod", desc := "(I)Z" } : MethodName) prog_12_method_46_code (2 : Nat) (Option.some ClassFile.FieldType.boolean)) ∈ wsU := zt6 (i := 101) rfl rfl
theorem wm_6_102 : (Cond.methodLink "SupplyContractLaw" (120 : Nat) ({ cls := "SupplyContractModel", name := "forecastOf", desc := "(I)I" } : MethodName)) ∈ wsU := zt6 (i := 102) rfl rfl
theorem wm_6_103 : (Cond.instanceMethod ({ cls := "SupplyContractModel", name := "forecastOf", desc := "(I)I" } : MethodName)) ∈ wsU := zt6 (i := 103) rfl rfl
theorem wm_6_104 : (Cond.selects "SupplyContractModel" ({ cls := "SupplyContractModel", name := "forecastOf", desc := "(I)I" } : MethodName) ({ cls := "SupplyContractModel", name := "forecastOf", desc := "(I)I" } : MethodName)) ∈ wsU := zt6 (i := 104) rfl rfl
theorem wm_6_105 : (Cond.code ({ cls := "SupplyContractModel", name := "forecastOf", desc := "(I)I" } : MethodName) prog_12_method_51_code (2 : Nat) (Option.some ClassFile.FieldType.int)) ∈ wsU := zt6 (i := 105) rfl rfl
theorem wm_6_106 : (Cond.methodLink "SupplyContractLaw" (123 : Nat) ({ cls := "SupplyContractModel", name := "orderOf", desc := "(I)I" } : MethodName)) ∈ wsU := zt6 (i := 106) rfl rfl
theorem wm_6_107 : (Cond.instanceMethod ({ cls := "SupplyContractModel", name := "orderOf", desc := "(I)I" } : MethodName)) ∈ wsU := zt6 (i := 107) rfl rfl
theorem wm_6_108 : (Cond.selects "SupplyContractModel" ({ cls := "SupplyContractModel", name := "orderOf", desc := "(I)I" } : MethodName) ({ cls := "SupplyContractModel", name := "orderOf", desc := "(I)I" } : MethodName)) ∈ wsU := zt6 (i := 108) rfl rfl
theorem wm_6_109 : (Cond.code ({ cls := "SupplyContractModel", name := "orderOf", desc := "(I)I" } : MethodName) prog_12_method_52_code (2 : Nat) (Option.some ClassFile.FieldType.int)) ∈ wsU := zt6 (i := 109) rfl rfl
theorem wm_6_110 : (Cond.methodLink "SupplyContractLaw" (126 : Nat) ({ cls := "SupplyContractModel", name := "openUnits", desc := "(I)I" } : MethodName)) ∈ wsU := zt6 (i := 110) rfl rfl
theorem wm_6_111 : (Cond.instanceMethod ({ cls := "SupplyContractModel", name := "openUnits", desc := "(I)I" } : MethodName)) ∈ wsU := zt6 (i := 111) rfl rfl
theorem wm_6_112 : (Cond.selects "SupplyContractModel" ({ cls := "SupplyContractModel", name := "openUnits", desc := "(I)I" } : MethodName) ({ cls := "SupplyContractModel", name := "openUnits", desc := "(I)I" } : MethodName)) ∈ wsU := zt6 (i := 112) rfl rfl
theorem wm_6_113 : (Cond.code ({ cls := "SupplyContractModel", name := "openUnits", desc := "(I)I" } : MethodName) prog_12_method_53_code (2 : Nat) (Option.some ClassFile.FieldType.int)) ∈ wsU := zt6 (i := 113) rfl rfl
theorem wm_6_114 : (Cond.methodLink "SupplyContractLaw" (129 : Nat) ({ cls := "SupplyContractModel", name := "missedUnits", desc := "(I)I" } : MethodName)) ∈ wsU := zt6 (i := 114) rfl rfl
theorem wm_6_115 : (Cond.instanceMethod ({ cls := "SupplyContractModel", name := "missedUnits", desc := "(I)I" } : MethodName)) ∈ wsU := zt6 (i := 115) rfl rfl
theorem wm_6_116 : (Cond.selects "SupplyContractModel" ({ cls := "SupplyContractModel", name := "missedUnits", desc := "(I)I" } : MethodName) ({ cls := "SupplyContractModel", name := "missedUnits", desc := "(I)I" } : MethodName)) ∈ wsU := zt6 (i := 116) rfl rfl
theorem wm_6_117 : (Cond.code ({ cls := "SupplyContractModel", name := "missedUnits", desc := "(I)I" } : MethodName) prog_12_method_54_code (2 : Nat) (Option.some ClassFile.FieldType.int)) ∈ wsU := zt6 (i := 117) rfl rfl
theorem wm_6_118 : (Cond.methodLink "SupplyContractLaw" (132 : Nat) ({ cls := "SupplyContractModel", name := "invoice", desc := "(I)J" } : MethodName)) ∈ wsU := zt6 (i := 118) rfl rfl
theorem wm_6_119 : (Cond.instanceMethod ({ cls := "SupplyContractModel", name := "invoice", desc := "(I)J" } : MethodName)) ∈ wsU := zt6 (i := 119) rfl rfl
theorem wm_6_120 : (Cond.selects "SupplyContractModel" ({ cls := "SupplyContractModel", name := "invoice", desc := "(I)J" } : MethodName) ({ cls := "SupplyContractModel", name := "invoice", desc := "(I)J" } : MethodName)) ∈ wsU := zt6 (i := 120) rfl rfl
theorem wm_6_121 : (Cond.code ({ cls := "SupplyContractModel", name := "invoice", desc := "(I)J" } : MethodName) prog_12_method_55_code (2 : Nat) (Option.some ClassFile.FieldType.long)) ∈ wsU := zt6 (i := 121) rfl rfl
theorem wm_6_122 : (Cond.methodLink "SupplyContractLaw" (136 : Nat) ({ cls := "SupplyContractModel", name := "balance", desc := "()J" } : MethodName)) ∈ wsU := zt6 (i := 122) rfl rfl
theorem wm_6_123 : (Cond.instanceMethod ({ cls := "SupplyContractModel", name := "balance", desc := "()J" } : MethodName)) ∈ wsU := zt6 (i := 123) rfl rfl
theorem wm_6_124 : (Cond.selects "SupplyContractModel" ({ cls := "SupplyContractModel", name := "balance", desc := "()J" } : MethodName) ({ cls := "SupplyContractModel", name := "balance", desc := "()J" } : MethodName)) ∈ wsU := zt6 (i := 124) rfl rfl
theorem wm_6_125 : (Cond.code ({ cls := "SupplyContractModel", name := "balance", desc := "()J" } : MethodName) prog_12_method_57_code (1 : Nat) (Option.some ClassFile.FieldType.long)) ∈ wsU := zt6 (i := 125) rfl rfl
theorem wm_6_126 : (Cond.methodLink "SupplyContractModel" (240 : Nat) ({ cls := "SupplyContractModel", name := "balanceNow", desc := "()J" } : MethodName)) ∈ wsU := zt6 (i := 126) rfl rfl
theorem wm_6_128 : (Cond.instanceMethod ({ cls := "SupplyContractModel", name := "balanceNow", desc := "()J" } : MethodName)) ∈ wsU := zt6 (i := 128) rfl rfl
theorem wm_6_129 : (Cond.code ({ cls := "SupplyContractModel", name := "balanceNow", desc := "()J" } : MethodName) prog_12_method_56_code (4 : Nat) (Option.some ClassFile.FieldType.long)) ∈ wsU := zt6 (i := 129) rfl rfl
theorem wm_6_130 : (Cond.methodLink "SupplyContractModel" (220 : Nat) ({ cls := "SupplyContractModel", name := "breach", desc := "(I)I" } : MethodName)) ∈ wsU := zt6 (i := 130) rfl rfl
theorem wm_6_131 : (Cond.static ({ cls := "SupplyContractModel", name := "breach", desc := "(I)I" } : MethodName)) ∈ wsU := zt6 (i := 131) rfl rfl
theorem wm_6_132 : (Cond.code ({ cls := "SupplyContractModel", name := "breach", desc := "(I)I" } : MethodName) prog_12_method_11_code (1 : Nat) (Option.some ClassFile.FieldType.int)) ∈ wsU := zt6 (i := 132) rfl rfl
theorem wm_6_133 : (Cond.methodLink "SupplyContractLaw" (139 : Nat) ({ cls := "SupplyContractModel", name := "bandFor", desc := "(I)I" } : MethodName)) ∈ wsU := zt6 (i := 133) rfl rfl
theorem wm_6_134 : (Cond.instanceMethod ({ cls := "SupplyContractModel", name := "bandFor", desc := "(I)I" } : MethodName)) ∈ wsU := zt6 (i := 134) rfl rfl
theorem wm_6_135 : (Cond.selects "SupplyContractModel" ({ cls := "SupplyContractModel", name := "bandFor", desc := "(I)I" } : MethodName) ({ cls := "SupplyContractModel", name := "bandFor", desc := "(I)I" } : MethodName)) ∈ wsU := zt6 (i := 135) rfl rfl
theorem wm_6_136 : (Cond.code ({ cls := "SupplyContractModel", name := "bandFor", desc := "(I)I" } : MethodName) prog_12_method_58_code (2 : Nat) (Option.some ClassFile.FieldType.int)) ∈ wsU := zt6 (i := 136) rfl rfl
theorem wm_6_137 : (Cond.methodLink "SupplyContractModel" (210 : Nat) ({ cls := "SupplyContractModel", name := "bandOf", desc := "(I)I" } : MethodName)) ∈ wsU := zt6 (i := 137) rfl rfl
theorem wm_6_139 : (Cond.instanceMethod ({ cls := "SupplyContractModel", name := "bandOf", desc := "(I)I" } : MethodName)) ∈ wsU := zt6 (i := 139) rfl rfl
theorem wm_6_140 : (Cond.code ({ cls := "SupplyContractModel", name := "bandOf", desc := "(I)I" } : MethodName) prog_12_method_36_code (3 : Nat) (Option.some ClassFile.FieldType.int)) ∈ wsU := zt6 (i := 140) rfl rfl
theorem wm_6_141 : (Cond.methodLink "SupplyContractLaw" (143 : Nat) ({ cls := "SupplyContractModel", name := "allowed", desc := "(IIZ)I" } : MethodName)) ∈ wsU := zt6 (i := 141) rfl rfl
theorem wm_6_142 : (Cond.instanceMethod ({ cls := "SupplyContractModel", name := "allowed", desc := "(IIZ)I" } : MethodName)) ∈ wsU := zt6 (i := 142) rfl rfl
theorem wm_6_143 : (Cond.selects "SupplyContractModel" ({ cls := "SupplyContractModel", name := "allowed", desc := "(IIZ)I" } : MethodName) ({ cls := "SupplyContractModel", name := "allowed", desc := "(IIZ)I" } : MethodName)) ∈ wsU := zt6 (i := 143) rfl rfl
theorem wm_6_144 : (Cond.code ({ cls := "SupplyContractModel", name := "allowed", desc := "(IIZ)I" } : MethodName) prog_12_method_59_code (4 : Nat) (Option.some ClassFile.FieldType.int)) ∈ wsU := zt6 (i := 144) rfl rfl
theorem wm_6_145 : (Cond.methodLink "SupplyContractModel" (213 : Nat) ({ cls := "SupplyContractModel", name := "bound", desc := "(IIZ)I" } : MethodName)) ∈ wsU := zt6 (i := 145) rfl rfl
theorem wm_6_147 : (Cond.instanceMethod ({ cls := "SupplyContractModel", name := "bound", desc := "(IIZ)I" } : MethodName)) ∈ wsU := zt6 (i := 147) rfl rfl
theorem wm_6_148 : (Cond.code ({ cls := "SupplyContractModel", name := "bound", desc := "(IIZ)I" } : MethodName) prog_12_method_37_code (5 : Nat) (Option.some ClassFile.FieldType.int)) ∈ wsU := zt6 (i := 148) rfl rfl
theorem wm_6_149 : (Cond.methodLink "SupplyContractLaw" (147 : Nat) ({ cls := "SupplyContractModel", name := "penaltyFor", desc := "(II)I" } : MethodName)) ∈ wsU := zt6 (i := 149) rfl rfl
theorem wm_6_150 : (Cond.instanceMethod ({ cls := "SupplyContractModel", name := "penaltyFor", desc := "(II)I" } : MethodName)) ∈ wsU := zt6 (i := 150) rfl rfl
theorem wm_6_151 : (Cond.selects "SupplyContractModel" ({ cls := "SupplyContractModel", name := "penaltyFor", desc := "(II)I" } : MethodName) ({ cls := "SupplyContractModel", name := "penaltyFor", desc := "(II)I" } : MethodName)) ∈ wsU := zt6 (i := 151) rfl rfl
theorem wm_6_152 : (Cond.code ({ cls := "SupplyContractModel", name := "penaltyFor", desc := "(II)I" } : MethodName) prog_12_method_60_code (3 : Nat) (Option.some ClassFile.FieldType.int)) ∈ wsU := zt6 (i := 152) rfl rfl
theorem wm_6_153 : (Cond.methodLink "SupplyContractModel" (223 : Nat) ({ cls := "SupplyContractModel", name := "penaltyOf", desc := "(II)I" } : MethodName)) ∈ wsU := zt6 (i := 153) rfl rfl
theorem wm_6_155 : (Cond.instanceMethod ({ cls := "SupplyContractModel", name := "penaltyOf", desc := "(II)I" } : MethodName)) ∈ wsU := zt6 (i := 155) rfl rfl
theorem wm_6_156 : (Cond.code ({ cls := "SupplyContractModel", name := "penaltyOf", desc := "(II)I" } : MethodName) prog_12_method_39_code (6 : Nat) (Option.some ClassFile.FieldType.int)) ∈ wsU := zt6 (i := 156) rfl rfl
theorem wm_6_157 : (Cond.methodLink "SupplyContractLaw" (151 : Nat) ({ cls := "SupplyContractModel", name := "breachCount", desc := "()I" } : MethodName)) ∈ wsU := zt6 (i := 157) rfl rfl
theorem wm_6_158 : (Cond.instanceMethod ({ cls := "SupplyContractModel", name := "breachCount", desc := "()I" } : MethodName)) ∈ wsU := zt6 (i := 158) rfl rfl
theorem wm_6_159 : (Cond.selects "SupplyContractModel" ({ cls := "SupplyContractModel", name := "breachCount", desc := "()I" } : MethodName) ({ cls := "SupplyContractModel", name := "breachCount", desc := "()I" } : MethodName)) ∈ wsU := zt6 (i := 159) rfl rfl
theorem wm_6_160 : (Cond.code ({ cls := "SupplyContractModel", name := "breachCount", desc := "()I" } : MethodName) prog_12_method_61_code (1 : Nat) (Option.some ClassFile.FieldType.int)) ∈ wsU := zt6 (i := 160) rfl rfl
theorem wm_6_161 : (Cond.methodLink "SupplyContractLaw" (155 : Nat) ({ cls := "SupplyContractModel", name := "allBreaches", desc := "()I" } : MethodName)) ∈ wsU := zt6 (i := 161) rfl rfl
theorem wm_6_162 : (Cond.instanceMethod ({ cls := "SupplyContractModel", name := "allBreaches", desc := "()I" } : MethodName)) ∈ wsU := zt6 (i := 162) rfl rfl
theorem wm_6_163 : (Cond.selects "SupplyContractModel" ({ cls := "SupplyContractModel", name := "allBreaches", desc := "()I" } : MethodName) ({ cls := "SupplyContractModel", name := "allBreaches", desc := "()I" } : MethodName)) ∈ wsU := zt6 (i := 163) rfl rfl
theorem wm_6_164 : (Cond.code ({ cls := "SupplyContractModel", name := "allBreaches", desc := "()I" } : MethodName) prog_12_method_62_code (1 : Nat) (Option.some ClassFile.FieldType.int)) ∈ wsU := zt6 (i := 164) rfl rfl
theorem wm_6_165 : (Cond.methodLink "SupplyContractLaw" (158 : Nat) ({ cls := "SupplyContractModel", name := "breachPeriod", desc := "(I)I" } : MethodName)) ∈ wsU := zt6 (i := 165) rfl rfl
theorem wm_6_166 : (Cond.instanceMethod ({ cls := "SupplyContractModel", name := "breachPeriod", desc := "(I)I" } : MethodName)) ∈ wsU := zt6 (i := 166) rfl rfl
theorem wm_6_167 : (Cond.selects "SupplyContractModel" ({ cls := "SupplyContractModel", name := "breachPeriod", desc := "(I)I" } : MethodName) ({ cls := "SupplyContractModel", name := "breachPeriod", desc := "(I)I" } : MethodName)) ∈ wsU := zt6 (i := 167) rfl rfl
theorem wm_6_168 : (Cond.code ({ cls := "SupplyContractModel", name := "breachPeriod", desc := "(I)I" } : MethodName) prog_12_method_63_code (2 : Nat) (Option.some ClassFile.FieldType.int)) ∈ wsU := zt6 (i := 168) rfl rfl
theorem wm_6_169 : (Cond.methodLink "SupplyContractModel" (244 : Nat) ({ cls := "SupplyContractModel", name := "noBreach", desc := "(I)Z" } : MethodName)) ∈ wsU := zt6 (i := 169) rfl rfl
theorem wm_6_171 : (Cond.instanceMethod ({ cls := "SupplyContractModel", name := "noBreach", desc := "(I)Z" } : MethodName)) ∈ wsU := zt6 (i := 171) rfl rfl
theorem wm_6_172 : (Cond.code ({ cls := "SupplyContractModel", name := "noBreach", desc := "(I)Z" } : MethodName) prog_12_method_47_code (2 : Nat) (Option.some ClassFile.FieldType.boolean)) ∈ wsU := zt6 (i := 172) rfl rfl
theorem wm_6_173 : (Cond.methodLink "SupplyContractLaw" (161 : Nat) ({ cls := "SupplyContractModel", name := "breachKind", desc := "(I)I" } : MethodName)) ∈ wsU := zt6 (i := 173) rfl rfl
theorem wm_6_174 : (Cond.instanceMethod ({ cls := "SupplyContractModel", name := "breachKind", desc := "(I)I" } : MethodName)) ∈ wsU := zt6 (i := 174) rfl rfl
theorem wm_6_175 : (Cond.selects "SupplyContractModel" ({ cls := "SupplyContractModel", name := "breachKind", desc := "(I)I" } : MethodName) ({ cls := "SupplyContractModel", name := "breachKind", desc := "(I)I" } : MethodName)) ∈ wsU := zt6 (i := 175) rfl rfl
theorem wm_6_176 : (Cond.code ({ cls := "SupplyContractModel", name := "breachKind", desc := "(I)I" } : MethodName) prog_12_method_64_code (2 : Nat) (Option.some ClassFile.FieldType.int)) ∈ wsU := zt6 (i := 176) rfl rfl
theorem wm_6_177 : (Cond.methodLink "SupplyContractLaw" (164 : Nat) ({ cls := "SupplyContractModel", name := "breachPenalty", desc := "(I)I" } : MethodName)) ∈ wsU := zt6 (i := 177) rfl rfl
theorem wm_6_178 : (Cond.instanceMethod ({ cls := "SupplyContractModel", name := "breachPenalty", desc := "(I)I" } : MethodName)) ∈ wsU := zt6 (i := 178) rfl rfl
theorem wm_6_179 : (Cond.selects "SupplyContractModel" ({ cls := "SupplyContractModel", name := "breachPenalty", desc := "(I)I" } : MethodName) ({ cls := "SupplyContractModel", name := "breachPenalty", desc := "(I)I" } : MethodName)) ∈ wsU := zt6 (i := 179) rfl rfl
theorem wm_6_180 : (Cond.code ({ cls := "SupplyContractModel", name := "breachPenalty", desc := "(I)I" } : MethodName) prog_12_method_65_code (2 : Nat) (Option.some ClassFile.FieldType.int)) ∈ wsU := zt6 (i := 180) rfl rfl
theorem wm_6_181 : (Cond.methodLink "SupplyContractLaw" (167 : Nat) ({ cls := "SupplyContractModel", name := "isWaived", desc := "(I)Z" } : MethodName)) ∈ wsU := zt6 (i := 181) rfl rfl
theorem wm_6_182 : (Cond.instanceMethod ({ cls := "SupplyContractModel", name := "isWaived", desc := "(I)Z" } : MethodName)) ∈ wsU := zt6 (i := 182) rfl rfl
theorem wm_6_183 : (Cond.selects "SupplyContractModel" ({ cls := "SupplyContractModel", name := "isWaived", desc := "(I)Z" } : MethodName) ({ cls := "SupplyContractModel", name := "isWaived", desc := "(I)Z" } : MethodName)) ∈ wsU := zt6 (i := 183) rfl rfl
theorem wm_6_184 : (Cond.code ({ cls := "SupplyContractModel", name := "isWaived", desc := "(I)Z" } : MethodName) prog_12_method_66_code (2 : Nat) (Option.some ClassFile.FieldType.boolean)) ∈ wsU := zt6 (i := 184) rfl rfl
theorem wm_6_185 : (Cond.methodLink "SupplyContractLaw" (171 : Nat) ({ cls := "SupplyContractModel", name := "waiversLeft", desc := "()I" } : MethodName)) ∈ wsU := zt6 (i := 185) rfl rfl
theorem wm_6_186 : (Cond.instanceMethod ({ cls := "SupplyContractModel", name := "waiversLeft", desc := "()I" } : MethodName)) ∈ wsU := zt6 (i := 186) rfl rfl
theorem wm_6_187 : (Cond.selects "SupplyContractModel" ({ cls := "SupplyContractModel", name := "waiversLeft", desc := "()I" } : MethodName) ({ cls := "SupplyContractModel", name := "waiversLeft", desc := "()I" } : MethodName)) ∈ wsU := zt6 (i := 187) rfl rfl
theorem wm_6_188 : (Cond.code ({ cls := "SupplyContractModel", name := "waiversLeft", desc := "()I" } : MethodName) prog_12_method_70_code (1 : Nat) (Option.some ClassFile.FieldType.int)) ∈ wsU := zt6 (i := 188) rfl rfl
theorem wm_6_189 : (Cond.methodLink "SupplyContractModel" (250 : Nat) ({ cls := "SupplyContractModel", name := "leftOver", desc := "()I" } : MethodName)) ∈ wsU := zt6 (i := 189) rfl rfl
theorem wm_6_191 : (Cond.instanceMethod ({ cls := "SupplyContractModel", name := "leftOver", desc := "()I" } : MethodName)) ∈ wsU := zt6 (i := 191) rfl rfl
theorem wm_6_192 : (Cond.code ({ cls := "SupplyContractModel", name := "leftOver", desc := "()I" } : MethodName) prog_12_method_67_code (3 : Nat) (Option.some ClassFile.FieldType.int)) ∈ wsU := zt6 (i := 192) rfl rfl
theorem wm_6_193 : (Cond.methodLink "SupplyContractLaw" (175 : Nat) ({ cls := "SupplyContractModel", name := "bestWaiving", desc := "()I" } : MethodName)) ∈ wsU := zt6 (i := 193) rfl rfl
theorem wm_6_194 : (Cond.instanceMethod ({ cls := "SupplyContractModel", name := "bestWaiving", desc := "()I" } : MethodName)) ∈ wsU := zt6 (i := 194) rfl rfl
theorem wm_6_195 : (Cond.selects "SupplyContractModel" ({ cls := "SupplyContractModel", name := "bestWaiving", desc := "()I" } : MethodName) ({ cls := "SupplyContractModel", name := "bestWaiving", desc := "()I" } : MethodName)) ∈ wsU := zt6 (i := 195) rfl rfl
theorem wm_6_196 : (Cond.code ({ cls := "SupplyContractModel", name := "bestWaiving", desc := "()I" } : MethodName) prog_12_method_73_code (1 : Nat) (Option.some ClassFile.FieldType.int)) ∈ wsU := zt6 (i := 196) rfl rfl
theorem wm_6_197 : (Cond.methodLink "SupplyContractModel" (270 : Nat) ({ cls := "SupplyContractModel", name := "findBest", desc := "()V" } : MethodName)) ∈ wsU := zt6 (i := 197) rfl rfl
theorem wm_6_199 : (Cond.instanceMethod ({ cls := "SupplyContractModel", name := "findBest", desc := "()V" } : MethodName)) ∈ wsU := zt6 (i := 199) rfl rfl
theorem wm_6_200 : (Cond.code ({ cls := "SupplyContractModel", name := "findBest", desc := "()V" } : MethodName) prog_12_method_72_code (1 : Nat) (Option.none : Option ClassFile.FieldType)) ∈ wsU := zt6 (i := 200) rfl rfl
theorem wm_6_201 : (Cond.methodLink "SupplyContractModel" (266 : Nat) ({ cls := "SupplyContractModel", name := "trySets", desc := "(III)V" } : MethodName)) ∈ wsU := zt6 (i := 201) rfl rfl
theorem wm_6_203 : (Cond.instanceMethod ({ cls := "SupplyContractModel", name := "trySets", desc := "(III)V" } : MethodName)) ∈ wsU := zt6 (i := 203) rfl rfl
theorem wm_6_204 : (Cond.code ({ cls := "SupplyContractModel", name := "trySets", desc := "(III)V" } : MethodName) prog_12_method_71_code (7 : Nat) (Option.none : Option ClassFile.FieldType)) ∈ wsU := zt6 (i := 204) rfl rfl
theorem wm_6_205 : (Cond.methodLink "SupplyContractModel" (263 : Nat) ({ cls := "SupplyContractModel", name := "canWaive", desc := "(I)Z" } : MethodName)) ∈ wsU := zt6 (i := 205) rfl rfl
theorem wm_6_207 : (Cond.instanceMethod ({ cls := "SupplyContractModel", name := "canWaive", desc := "(I)Z" } : MethodName)) ∈ wsU := zt6 (i := 207) rfl rfl
theorem wm_6_208 : (Cond.code ({ cls := "SupplyContractModel", name := "canWaive", desc := "(I)Z" } : MethodName) prog_12_method_69_code (3 : Nat) (Option.some ClassFile.FieldType.boolean)) ∈ wsU := zt6 (i := 208) rfl rfl
theorem wm_6_209 : (Cond.methodLink "SupplyContractModel" (253 : Nat) ({ cls := "SupplyContractModel", name := "areApart", desc := "(II)Z" } : MethodName)) ∈ wsU := zt6 (i := 209) rfl rfl
theorem wm_6_211 : (Cond.instanceMethod ({ cls := "SupplyContractModel", name := "areApart", desc := "(II)Z" } : MethodName)) ∈ wsU := zt6 (i := 211) rfl rfl
theorem wm_6_212 : (Cond.code ({ cls := "SupplyContractModel", name := "areApart", desc := "(II)Z" } : MethodName) prog_12_method_68_code (3 : Nat) (Option.some ClassFile.FieldType.boolean)) ∈ wsU := zt6 (i := 212) rfl rfl
theorem wm_6_213 : (Cond.methodLink "SupplyContractModel" (247 : Nat) ({ cls := "SupplyContractModel", name := "size", desc := "(I)I" } : MethodName)) ∈ wsU := zt6 (i := 213) rfl rfl
theorem wm_6_214 : (Cond.static ({ cls := "SupplyContractModel", name := "size", desc := "(I)I" } : MethodName)) ∈ wsU := zt6 (i := 214) rfl rfl
theorem wm_6_215 : (Cond.code ({ cls := "SupplyContractModel", name := "size", desc := "(I)I" } : MethodName) prog_12_method_7_code (1 : Nat) (Option.some ClassFile.FieldType.int)) ∈ wsU := zt6 (i := 215) rfl rfl
theorem wm_6_216 : (Cond.methodLink "SupplyContractLaw" (178 : Nat) ({ cls := "SupplyContractModel", name := "bestWaiver", desc := "(I)I" } : MethodName)) ∈ wsU := zt6 (i := 216) rfl rfl
theorem wm_6_217 : (Cond.instanceMethod ({ cls := "SupplyContractModel", name := "bestWaiver", desc := "(I)I" } : MethodName)) ∈ wsU := zt6 (i := 217) rfl rfl
theorem wm_6_218 : (Cond.selects "SupplyContractModel" ({ cls := "SupplyContractModel", name := "bestWaiver", desc := "(I)I" } : MethodName) ({ cls := "SupplyContractModel", name := "bestWaiver", desc := "(I)I" } : MethodName)) ∈ wsU := zt6 (i := 218) rfl rfl
theorem wm_6_219 : (Cond.code ({ cls := "SupplyContractModel", name := "bestWaiver", desc := "(I)I" } : MethodName) prog_12_method_74_code (2 : Nat) (Option.some ClassFile.FieldType.int)) ∈ wsU := zt6 (i := 219) rfl rfl
theorem wm_6_220 : (Cond.methodLink "SupplyContractLaw" (182 : Nat) ({ cls := "SupplyContractModel", name := "projected", desc := "()J" } : MethodName)) ∈ wsU := zt6 (i := 220) rfl rfl
theorem wm_6_221 : (Cond.instanceMethod ({ cls := "SupplyContractModel", name := "projected", desc := "()J" } : MethodName)) ∈ wsU := zt6 (i := 221) rfl rfl
theorem wm_6_222 : (Cond.selects "SupplyContractModel" ({ cls := "SupplyContractModel", name := "projected", desc := "()J" } : MethodName) ({ cls := "SupplyContractModel", name := "projected", desc := "()J" } : MethodName)) ∈ wsU := zt6 (i := 222) rfl rfl
theorem wm_6_223 : (Cond.code ({ cls := "SupplyContractModel", name := "projected", desc := "()J" } : MethodName) prog_12_method_76_code (1 : Nat) (Option.some ClassFile.FieldType.long)) ∈ wsU := zt6 (i := 223) rfl rfl
theorem wm_6_224 : (Cond.methodLink "SupplyContractModel" (281 : Nat) ({ cls := "SupplyContractModel", name := "project", desc := "()J" } : MethodName)) ∈ wsU := zt6 (i := 224) rfl rfl
theorem wm_6_226 : (Cond.instanceMethod ({ cls := "SupplyContractModel", name := "project", desc := "()J" } : MethodName)) ∈ wsU := zt6 (i := 226) rfl rfl
theorem wm_6_227 : (Cond.code ({ cls := "SupplyContractModel", name := "project", desc := "()J" } : MethodName) prog_12_method_75_code (3 : Nat) (Option.some ClassFile.FieldType.long)) ∈ wsU := zt6 (i := 227) rfl rfl
theorem wm_6_228 : (Cond.methodLink "SupplyContractModel" (273 : Nat) ({ cls := "SupplyContractModel", name := "isOpen", desc := "([I)Z" } : MethodName)) ∈ wsU := zt6 (i := 228) rfl rfl
theorem wm_6_229 : (Cond.static ({ cls := "SupplyContractModel", name := "isOpen", desc := "([I)Z" } : MethodName)) ∈ wsU := zt6 (i := 229) rfl rfl
theorem wm_6_230 : (Cond.code ({ cls := "SupplyContractModel", name := "isOpen", desc := "([I)Z" } : MethodName) prog_12_method_45_code (1 : Nat) (Option.some ClassFile.FieldType.boolean)) ∈ wsU := zt6 (i := 230) rfl rfl
theorem wm_6_231 : (Cond.methodLink "SupplyContractModel" (277 : Nat) ({ cls := "SupplyContractModel", name := "closeOne", desc := "([I[J)V" } : MethodName)) ∈ wsU := zt6 (i := 231) rfl rfl
theorem wm_6_232 : (Cond.static ({ cls := "SupplyContractModel", name := "closeOne", desc := "([I[J)V" } : MethodName)) ∈ wsU := zt6 (i := 232) rfl rfl
theorem wm_6_233 : (Cond.code ({ cls := "SupplyContractModel", name := "closeOne", desc := "([I[J)V" } : MethodName) prog_12_method_44_code (11 : Nat) (Option.none : Option ClassFile.FieldType)) ∈ wsU := zt6 (i := 233) rfl rfl
theorem wm_6_234 : (Cond.methodLink "SupplyContractModel" (226 : Nat) ({ cls := "SupplyContractModel", name := "place", desc := "([III)V" } : MethodName)) ∈ wsU := zt6 (i := 234) rfl rfl
theorem wm_6_235 : (Cond.static ({ cls := "SupplyContractModel", name := "place", desc := "([III)V" } : MethodName)) ∈ wsU := zt6 (i := 235) rfl rfl
theorem wm_6_236 : (Cond.code ({ cls := "SupplyContractModel", name := "place", desc := "([III)V" } : MethodName) prog_12_method_43_code (3 : Nat) (Option.none : Option ClassFile.FieldType)) ∈ wsU := zt6 (i := 236) rfl rfl
theorem wm_6_237 : (Cond.methodLink "SupplyContractModel" (217 : Nat) ({ cls := "SupplyContractModel", name := "max", desc := "(II)I" } : MethodName)) ∈ wsU := zt6 (i := 237) rfl rfl
theorem wm_6_238 : (Cond.static ({ cls := "SupplyContractModel", name := "max", desc := "(II)I" } : MethodName)) ∈ wsU := zt6 (i := 238) rfl rfl
theorem wm_6_239 : (Cond.code ({ cls := "SupplyContractModel", name := "max", desc := "(II)I" } : MethodName) prog_12_method_6_code (2 : Nat) (Option.some ClassFile.FieldType.int)) ∈ wsU := zt6 (i := 239) rfl rfl
theorem wm_7_0 : (Cond.methodLink "SupplyContractModel" (230 : Nat) ({ cls := "SupplyContractModel", name := "deliver", desc := "([III)I" } : MethodName)) ∈ wsU := zt7 (i := 0) rfl rfl
theorem wm_7_1 : (Cond.static ({ cls := "SupplyContractModel", name := "deliver", desc := "([III)I" } : MethodName)) ∈ wsU := zt7 (i := 1) rfl rfl
theorem wm_7_2 : (Cond.code ({ cls := "SupplyContractModel", name := "deliver", desc := "([III)I" } : MethodName) prog_12_method_41_code (4 : Nat) (Option.some ClassFile.FieldType.int)) ∈ wsU := zt7 (i := 2) rfl rfl
theorem wm_7_3 : (Cond.methodLink "SupplyContractModel" (234 : Nat) ({ cls := "SupplyContractModel", name := "miss", desc := "([II)I" } : MethodName)) ∈ wsU := zt7 (i := 3) rfl rfl
theorem wm_7_4 : (Cond.static ({ cls := "SupplyContractModel", name := "miss", desc := "([II)I" } : MethodName)) ∈ wsU := zt7 (i := 4) rfl rfl
theorem wm_7_5 : (Cond.code ({ cls := "SupplyContractModel", name := "miss", desc := "([II)I" } : MethodName) prog_12_method_42_code (3 : Nat) (Option.some ClassFile.FieldType.int)) ∈ wsU := zt7 (i := 5) rfl rfl
theorem wm_7_6 : (Cond.methodLink "SupplyContractLaw" (185 : Nat) ({ cls := "SupplyContractModel", name := "bestReserved", desc := "(I)I" } : MethodName)) ∈ wsU := zt7 (i := 6) rfl rfl
theorem wm_7_7 : (Cond.instanceMethod ({ cls := "SupplyContractModel", name := "bestReserved", desc := "(I)I" } : MethodName)) ∈ wsU := zt7 (i := 7) rfl rfl
theorem wm_7_8 : (Cond.selects "SupplyContractModel" ({ cls := "SupplyContractModel", name := "bestReserved", desc := "(I)I" } : MethodName) ({ cls := "SupplyContractModel", name := "bestReserved", desc := "(I)I" } : MethodName)) ∈ wsU := zt7 (i := 8) rfl rfl
theorem wm_7_9 : (Cond.code ({ cls := "SupplyContractModel", name := "bestReserved", desc := "(I)I" } : MethodName) prog_12_method_77_code (8 : Nat) (Option.some ClassFile.FieldType.int)) ∈ wsU := zt7 (i := 9) rfl rfl
theorem wm_7_10 : (Cond.methodLink "SupplyContractLaw" (188 : Nat) ({ cls := "SupplyContractModel", name := "forecast", desc := "(II)I" } : MethodName)) ∈ wsU := zt7 (i := 10) rfl rfl
theorem wm_7_11 : (Cond.instanceMethod ({ cls := "SupplyContractModel", name := "forecast", desc := "(II)I" } : MethodName)) ∈ wsU := zt7 (i := 11) rfl rfl
theorem wm_7_12 : (Cond.selects "SupplyContractModel" ({ cls := "SupplyContractModel", name := "forecast", desc := "(II)I" } : MethodName) ({ cls := "SupplyContractModel", name := "forecast", desc := "(II)I" } : MethodName)) ∈ wsU := zt7 (i := 12) rfl rfl
theorem wm_7_13 : (Cond.code ({ cls := "SupplyContractModel", name := "forecast", desc := "(II)I" } : MethodName) prog_12_method_79_code (5 : Nat) (Option.some ClassFile.FieldType.int)) ∈ wsU := zt7 (i := 13) rfl rfl
theorem wm_7_14 : (Cond.methodLink "SupplyContractModel" (291 : Nat) ({ cls := "SupplyContractModel", name := "excessOf", desc := "(III)I" } : MethodName)) ∈ wsU := zt7 (i := 14) rfl rfl
theorem wm_7_16 : (Cond.instanceMethod ({ cls := "SupplyContractModel", name := "excessOf", desc := "(III)I" } : MethodName)) ∈ wsU := zt7 (i := 16) rfl rfl
theorem wm_7_17 : (Cond.code ({ cls := "SupplyContractModel", name := "excessOf", desc := "(III)I" } : MethodName) prog_12_method_38_code (4 : Nat) (Option.some ClassFile.FieldType.int)) ∈ wsU := zt7 (i := 17) rfl rfl
theorem wm_7_18 : (Cond.methodLink "SupplyContractModel" (295 : Nat) ({ cls := "SupplyContractModel", name := "note", desc := "(IIII)I" } : MethodName)) ∈ wsU := zt7 (i := 18) rfl rfl
theorem wm_7_20 : (Cond.instanceMethod ({ cls := "SupplyContractModel", name := "note", desc := "(IIII)I" } : MethodName)) ∈ wsU := zt7 (i := 20) rfl rfl
theorem wm_7_21 : (Cond.code ({ cls := "SupplyContractModel", name := "note", desc := "(IIII)I" } : MethodName) prog_12_method_40_code (6 : Nat) (Option.some ClassFile.FieldType.int)) ∈ wsU := zt7 (i := 21) rfl rfl
theorem wm_7_22 : (Cond.methodLink "SupplyContractLaw" (191 : Nat) ({ cls := "SupplyContractModel", name := "order", desc := "(I)I" } : MethodName)) ∈ wsU := zt7 (i := 22) rfl rfl
theorem wm_7_23 : (Cond.instanceMethod ({ cls := "SupplyContractModel", name := "order", desc := "(I)I" } : MethodName)) ∈ wsU := zt7 (i := 23) rfl rfl
theorem wm_7_24 : (Cond.selects "SupplyContractModel" ({ cls := "SupplyContractModel", name := "order", desc := "(I)I" } : MethodName) ({ cls := "SupplyContractModel", name := "order", desc := "(I)I" } : MethodName)) ∈ wsU := zt7 (i := 24) rfl rfl
theorem wm_7_25 : (Cond.code ({ cls := "SupplyContractModel", name := "order", desc := "(I)I" } : MethodName) prog_12_method_80_code (4 : Nat) (Option.some ClassFile.FieldType.int)) ∈ wsU := zt7 (i := 25) rfl rfl
theorem wm_7_26 : (Cond.methodLink "SupplyContractLaw" (195 : Nat) ({ cls := "SupplyContractModel", name := "close", desc := "()J" } : MethodName)) ∈ wsU := zt7 (i := 26) rfl rfl
theorem wm_7_27 : (Cond.instanceMethod ({ cls := "SupplyContractModel", name := "close", desc := "()J" } : MethodName)) ∈ wsU := zt7 (i := 27) rfl rfl
theorem wm_7_28 : (Cond.selects "SupplyContractModel" ({ cls := "SupplyContractModel", name := "close", desc := "()J" } : MethodName) ({ cls := "SupplyContractModel", name := "close", desc := "()J" } : MethodName)) ∈ wsU := zt7 (i := 28) rfl rfl
theorem wm_7_29 : (Cond.code ({ cls := "SupplyContractModel", name := "close", desc := "()J" } : MethodName) prog_12_method_81_code (1 : Nat) (Option.some ClassFile.FieldType.long)) ∈ wsU := zt7 (i := 29) rfl rfl
theorem wm_7_30 : (Cond.methodLink "SupplyContractLaw" (198 : Nat) ({ cls := "SupplyContractModel", name := "reserve", desc := "(II)I" } : MethodName)) ∈ wsU := zt7 (i := 30) rfl rfl
theorem wm_7_31 : (Cond.instanceMethod ({ cls := "SupplyContractModel", name := "reserve", desc := "(II)I" } : MethodName)) ∈ wsU := zt7 (i := 31) rfl rfl
theorem wm_7_32 : (Cond.selects "SupplyContractModel" ({ cls := "SupplyContractModel", name := "reserve", desc := "(II)I" } : MethodName) ({ cls := "SupplyContractModel", name := "reserve", desc := "(II)I" } : MethodName)) ∈ wsU := zt7 (i := 32) rfl rfl
theorem wm_7_33 : (Cond.code ({ cls := "SupplyContractModel", name := "reserve", desc := "(II)I" } : MethodName) prog_12_method_82_code (5 : Nat) (Option.some ClassFile.FieldType.int)) ∈ wsU := zt7 (i := 33) rfl rfl
theorem wm_7_34 : (Cond.methodLink "SupplyContractLaw" (201 : Nat) ({ cls := "SupplyContractModel", name := "waive", desc := "(I)I" } : MethodName)) ∈ wsU := zt7 (i := 34) rfl rfl
theorem wm_7_35 : (Cond.instanceMethod ({ cls := "SupplyContractModel", name := "waive", desc := "(I)I" } : MethodName)) ∈ wsU := zt7 (i := 35) rfl rfl
theorem wm_7_36 : (Cond.selects "SupplyContractModel" ({ cls := "SupplyContractModel", name := "waive", desc := "(I)I" } : MethodName) ({ cls := "SupplyContractModel", name := "waive", desc := "(I)I" } : MethodName)) ∈ wsU := zt7 (i := 36) rfl rfl
theorem wm_7_37 : (Cond.code ({ cls := "SupplyContractModel", name := "waive", desc := "(I)I" } : MethodName) prog_12_method_83_code (2 : Nat) (Option.some ClassFile.FieldType.int)) ∈ wsU := zt7 (i := 37) rfl rfl
theorem wm_7_38 : (Cond.methodLink "SupplyContractLaw" (205 : Nat) ({ cls := "SupplyContractModel", name := "undo", desc := "()I" } : MethodName)) ∈ wsU := zt7 (i := 38) rfl rfl
theorem wm_7_39 : (Cond.instanceMethod ({ cls := "SupplyContractModel", name := "undo", desc := "()I" } : MethodName)) ∈ wsU := zt7 (i := 39) rfl rfl
theorem wm_7_40 : (Cond.selects "SupplyContractModel" ({ cls := "SupplyContractModel", name := "undo", desc := "()I" } : MethodName) ({ cls := "SupplyContractModel", name := "undo", desc := "()I" } : MethodName)) ∈ wsU := zt7 (i := 40) rfl rfl
theorem wm_7_41 : (Cond.code ({ cls := "SupplyContractModel", name := "undo", desc := "()I" } : MethodName) prog_12_method_84_code (1 : Nat) (Option.some ClassFile.FieldType.int)) ∈ wsU := zt7 (i := 41) rfl rfl
theorem wm_7_42 : (Cond.methodLink "SupplyContractLaw" (209 : Nat) ({ cls := "SupplyContractModel", name := "checksum", desc := "()J" } : MethodName)) ∈ wsU := zt7 (i := 42) rfl rfl
theorem wm_7_43 : (Cond.instanceMethod ({ cls := "SupplyContractModel", name := "checksum", desc := "()J" } : MethodName)) ∈ wsU := zt7 (i := 43) rfl rfl
theorem wm_7_44 : (Cond.selects "SupplyContractModel" ({ cls := "SupplyContractModel", name := "checksum", desc := "()J" } : MethodName) ({ cls := "SupplyContractModel", name := "checksum", desc := "()J" } : MethodName)) ∈ wsU := zt7 (i := 44) rfl rfl
theorem wm_7_45 : (Cond.code ({ cls := "SupplyContractModel", name := "checksum", desc := "()J" } : MethodName) prog_12_method_85_code (5 : Nat) (Option.some ClassFile.FieldType.long)) ∈ wsU := zt7 (i := 45) rfl rfl
theorem wm_7_46 : (Cond.constantLong "SupplyContractModel" (299 : Nat) (31 : Int64)) ∈ wsU := zt7 (i := 46) rfl rfl
theorem wm_7_47 : (Cond.sameMethod "java/lang/Throwable" "java/lang/Throwable" "fillInStackTrace" "(I)Ljava/lang/Throwable;") ∈ wsU := zt7 (i := 47) rfl rfl
theorem wm_7_48 : (Cond.fieldLink "java/lang/String" (9 : Nat) "java/lang/String" "value" "[B") ∈ wsU := zt7 (i := 48) rfl rfl
theorem wm_7_49 : (Cond.fieldLink "java/lang/String" (15 : Nat) "java/lang/String" "coder" "B") ∈ wsU := zt7 (i := 49) rfl rfl
theorem uw_X0 : ∀ w ∈ u_ws RX0 TX0 7, w ∈ wsU := List.forall_mem_cons.mpr ⟨wm_1_144, List.forall_mem_cons.mpr ⟨wm_1_146, List.forall_mem_cons.mpr ⟨wm_1_148, List.forall_mem_cons.mpr ⟨wm_1_150, List.forall_mem_cons.mpr ⟨wm_1_152, List.forall_mem_cons.mpr ⟨wm_1_154, List.forall_mem_cons.mpr ⟨wm_1_156, fun _ h => absurd h List.not_mem_nil⟩⟩⟩⟩⟩⟩⟩
theorem uw_X1 : ∀ w ∈ u_ws RX1 TX1 7, w ∈ wsU := List.forall_mem_cons.mpr ⟨wm_1_183, List.forall_mem_cons.mpr ⟨wm_1_185, List.forall_mem_cons.mpr ⟨wm_1_187, List.forall_mem_cons.mpr ⟨wm_1_189, List.forall_mem_cons.mpr ⟨wm_1_191, List.forall_mem_cons.mpr ⟨wm_1_193, List.forall_mem_cons.mpr ⟨wm_1_195, fun _ h => absurd h List.not_mem_nil⟩⟩⟩⟩⟩⟩⟩
theorem uw_X2 : ∀ w ∈ u_ws RX2 TX2 3, w ∈ wsU := List.forall_mem_cons.mpr ⟨wm_1_207, List.forall_mem_cons.mpr ⟨wm_1_209, List.forall_mem_cons.mpr ⟨wm_1_211, fun _ h => absurd h List.not_mem_nil⟩⟩⟩
theorem uw_X3 : ∀ w ∈ u_ws RX3 TX3 2, w ∈ wsU := List.forall_mem_cons.mpr ⟨wm_2_50, List.forall_mem_cons.mpr ⟨wm_2_52, fun _ h => absurd h List.not_mem_nil⟩⟩
theorem uw_X4 : ∀ w ∈ u_ws RX4 TX4 3, w ∈ wsU := List.forall_mem_cons.mpr ⟨wm_1_225, List.forall_mem_cons.mpr ⟨wm_1_227, List.forall_mem_cons.mpr ⟨wm_1_229, fun _ h => absurd h List.not_mem_nil⟩⟩⟩
theorem uw_X5 : ∀ w ∈ u_ws RX5 TX5 9, w ∈ wsU := List.forall_mem_cons.mpr ⟨wm_2_20, List.forall_mem_cons.mpr ⟨wm_2_22, List.forall_mem_cons.mpr ⟨wm_2_24, List.forall_mem_cons.mpr ⟨wm_2_26, List.forall_mem_cons.mpr ⟨wm_2_28, List.forall_mem_cons.mpr ⟨wm_2_30, List.forall_mem_cons.mpr ⟨wm_2_32, List.forall_mem_cons.mpr ⟨wm_2_34, List.forall_mem_cons.mpr ⟨wm_2_36, fun _ h => absurd h List.not_mem_nil⟩⟩⟩⟩⟩⟩⟩⟩⟩
theorem uw_X6 : ∀ w ∈ u_ws RX6 TX6 5, w ∈ wsU := List.forall_mem_cons.mpr ⟨wm_2_64, List.forall_mem_cons.mpr ⟨wm_2_66, List.forall_mem_cons.mpr ⟨wm_2_68, List.forall_mem_cons.mpr ⟨wm_2_70, List.forall_mem_cons.mpr ⟨wm_2_72, fun _ h => absurd h List.not_mem_nil⟩⟩⟩⟩⟩
theorem uw_X7 : ∀ w ∈ u_ws RX7 TX7 16, w ∈ wsU := List.forall_mem_cons.mpr ⟨wm_1_88, List.forall_mem_cons.mpr ⟨wm_1_90, List.forall_mem_cons.mpr ⟨wm_1_92, List.forall_mem_cons.mpr ⟨wm_1_94, List.forall_mem_cons.mpr ⟨wm_1_96, List.forall_mem_cons.mpr ⟨wm_1_98, List.forall_mem_cons.mpr ⟨wm_1_100, List.forall_mem_cons.mpr ⟨wm_1_102, List.forall_mem_cons.mpr ⟨wm_1_104, List.forall_mem_cons.mpr ⟨wm_1_106, List.forall_mem_cons.mpr ⟨wm_1_108, List.forall_mem_cons.mpr ⟨wm_1_110, List.forall_mem_cons.mpr ⟨wm_1_112, List.forall_mem_cons.mpr ⟨wm_1_114, List.forall_mem_cons.mpr ⟨wm_1_116, List.forall_mem_cons.mpr ⟨wm_1_118, fun _ h => absurd h List.not_mem_nil⟩⟩⟩⟩⟩⟩⟩⟩⟩⟩⟩⟩⟩⟩⟩⟩
theorem uw_X8 : ∀ w ∈ u_ws RX8 TX8 8, w ∈ wsU := List.forall_mem_cons.mpr ⟨wm_2_90, List.forall_mem_cons.mpr ⟨wm_2_92, List.forall_mem_cons.mpr ⟨wm_2_94, List.forall_mem_cons.mpr ⟨wm_2_96, List.forall_mem_cons.mpr ⟨wm_2_98, List.forall_mem_cons.mpr ⟨wm_2_100, List.forall_mem_cons.mpr ⟨wm_2_102, List.forall_mem_cons.mpr ⟨wm_2_104, fun _ h => absurd h List.not_mem_nil⟩⟩⟩⟩⟩⟩⟩⟩
theorem uw_X9 : ∀ w ∈ u_ws RX9 TX9 7, w ∈ wsU := List.forall_mem_cons.mpr ⟨wm_2_116, List.forall_mem_cons.mpr ⟨wm_2_118, List.forall_mem_cons.mpr ⟨wm_2_120, List.forall_mem_cons.mpr ⟨wm_2_122, List.forall_mem_cons.mpr ⟨wm_2_124, List.forall_mem_cons.mpr ⟨wm_2_126, List.forall_mem_cons.mpr ⟨wm_2_128, fun _ h => absurd h List.not_mem_nil⟩⟩⟩⟩⟩⟩⟩
theorem uw_X10 : ∀ w ∈ u_ws RX10 TX10 24, w ∈ wsU := List.forall_mem_cons.mpr ⟨wm_5_140, List.forall_mem_cons.mpr ⟨wm_5_142, List.forall_mem_cons.mpr ⟨wm_5_144, List.forall_mem_cons.mpr ⟨wm_5_146, List.forall_mem_cons.mpr ⟨wm_5_148, List.forall_mem_cons.mpr ⟨wm_5_150, List.forall_mem_cons.mpr ⟨wm_5_152, List.forall_mem_cons.mpr ⟨wm_5_154, List.forall_mem_cons.mpr ⟨wm_5_156, List.forall_mem_cons.mpr ⟨wm_5_158, List.forall_mem_cons.mpr ⟨wm_5_160, List.forall_mem_cons.mpr ⟨wm_5_162, List.forall_mem_cons.mpr ⟨wm_5_164, List.forall_mem_cons.mpr ⟨wm_5_166, List.forall_mem_cons.mpr ⟨wm_5_168, List.forall_mem_cons.mpr ⟨wm_5_170, List.forall_mem_cons.mpr ⟨wm_5_172, List.forall_mem_cons.mpr ⟨wm_5_174, List.forall_mem_cons.mpr ⟨wm_5_176, List.forall_mem_cons.mpr ⟨wm_5_178, List.forall_mem_cons.mpr ⟨wm_5_180, List.forall_mem_cons.mpr ⟨wm_5_182, List.forall_mem_cons.mpr ⟨wm_5_184, List.forall_mem_cons.mpr ⟨wm_5_186, fun _ h => absurd h List.not_mem_nil⟩⟩⟩⟩⟩⟩⟩⟩⟩⟩⟩⟩⟩⟩⟩⟩⟩⟩⟩⟩⟩⟩⟩⟩
theorem yv_X0_102 : zYV RX0 102 yX0_closePeriod cX0_closePeriod 8 (some .long) 1 := ⟨wm_2_229, wm_2_226, wm_1_4, ⟨by decide +kernel, by decide +kernel, by decide +kernel⟩, wm_2_228, zts (y := yX0_closePeriod) (n := 7) (by decide +kernel) rfl⟩
theorem yv_X0_35 : zYS RX0 35 yJ7_fill_53178 cJ7_fill_53178 4 none 2 := ⟨wm_3_226, wm_3_224, wm_1_21, ⟨by decide +kernel, by decide +kernel, by decide +kernel⟩, wm_3_225⟩
theorem yv_X0_41 : zYS RX0 41 yJ7_fill_d0a16 cJ7_fill_d0a16 5 none 2 := ⟨wm_3_229, wm_3_227, wm_1_21, ⟨by decide +kernel, by decide +kernel, by decide +kernel⟩, wm_3_228⟩
theorem yv_X0_50 : zYV RX0 50 yX0_placeOrder cX0_placeOrder 2 none 1 := ⟨wm_2_233, wm_2_230, wm_1_4, ⟨by decide +kernel, by decide +kernel, by decide +kernel⟩, wm_2_232, zts (y := yX0_placeOrder) (n := 7) (by decide +kernel) rfl⟩
theorem yv_X0_59 : zYV RX0 59 yX0_deliverReserved cX0_deliverReserved 5 (some .int) 1 := ⟨wm_2_237, wm_2_234, wm_1_4, ⟨by decide +kernel, by decide +kernel, by decide +kernel⟩, wm_2_236, zts (y := yX0_deliverReserved) (n := 7) (by decide +kernel) rfl⟩
theorem yv_X0_66 : zYV RX0 66 yX0_deliverSpot cX0_deliverSpot 4 (some .int) 2 := ⟨wm_3_5, wm_3_2, wm_1_4, ⟨by decide +kernel, by decide +kernel, by decide +kernel⟩, wm_3_4, zts (y := yX0_deliverSpot) (n := 7) (by decide +kernel) rfl⟩
theorem yv_X0_70 : zYV RX0 70 yX0_missOpen cX0_missOpen 3 (some .int) 1 := ⟨wm_3_9, wm_3_6, wm_1_4, ⟨by decide +kernel, by decide +kernel, by decide +kernel⟩, wm_3_8, zts (y := yX0_missOpen) (n := 7) (by decide +kernel) rfl⟩
theorem yv_X0_76 : zYV RX0 76 yX0_missAllOpen cX0_missAllOpen 4 (some .int) 1 := ⟨wm_3_13, wm_3_10, wm_1_4, ⟨by decide +kernel, by decide +kernel, by decide +kernel⟩, wm_3_12, zts (y := yX0_missAllOpen) (n := 7) (by decide +kernel) rfl⟩
theorem yv_X0_82 : zYS RX0 82 yJ9_max_7cf53 cJ9_max_7cf53 2 (some .int) 2 := ⟨wm_3_0, wm_2_238, wm_1_16, ⟨by decide +kernel, by decide +kernel, by decide +kernel⟩, wm_2_239⟩
theorem yv_X0_99 : zYS RX0 99 yJ9_min_7cf53 cJ9_min_7cf53 2 (some .int) 2 := ⟨wm_2_185, wm_3_1, wm_1_16, ⟨by decide +kernel, by decide +kernel, by decide +kernel⟩, wm_2_184⟩
theorem yv_X1_49 : zYV RX1 49 yX1_keepsGap cX1_keepsGap 4 (some .boolean) 2 := ⟨wm_2_193, wm_2_190, wm_1_5, ⟨by decide +kernel, by decide +kernel, by decide +kernel⟩, wm_2_192, zts (y := yX1_keepsGap) (n := 7) (by decide +kernel) rfl⟩
theorem yv_X1_53 : zYV RX1 53 yX1_distance cX1_distance 3 (some .int) 2 := ⟨wm_2_197, wm_2_194, wm_1_5, ⟨by decide +kernel, by decide +kernel, by decide +kernel⟩, wm_2_196, zts (y := yX1_distance) (n := 7) (by decide +kernel) rfl⟩
theorem yv_X1_57 : zYS RX1 57 yJ9_abs_0f7a4 cJ9_abs_0f7a4 1 (some .int) 1 := ⟨wm_2_200, wm_2_198, wm_1_16, ⟨by decide +kernel, by decide +kernel, by decide +kernel⟩, wm_2_199⟩
theorem yv_X3_18 : zYV RX3 18 yX3_term cX3_term 6 (some .long) 2 := ⟨wm_4_37, wm_4_34, wm_1_9, ⟨by decide +kernel, by decide +kernel, by decide +kernel⟩, wm_4_36, zts (y := yX3_term) (n := 2) (by decide +kernel) rfl⟩
theorem yv_X3_28 : zYS RX3 28 yX3_limited cX3_limited 2 (some .long) 1 := ⟨wm_4_56, wm_4_54, wm_1_9, ⟨by decide +kernel, by decide +kernel, by decide +kernel⟩, wm_4_55⟩
theorem yv_X3_32 : zYV RX3 32 yX3_factor cX3_factor 5 (some .long) 2 := ⟨wm_4_41, wm_4_38, wm_1_9, ⟨by decide +kernel, by decide +kernel, by decide +kernel⟩, wm_4_40, zts (y := yX3_factor) (n := 2) (by decide +kernel) rfl⟩
theorem yv_X3_35 : zYS RX3 35 yX3_quotient cX3_quotient 4 (some .long) 2 := ⟨wm_4_67, wm_4_65, wm_1_9, ⟨by decide +kernel, by decide +kernel, by decide +kernel⟩, wm_4_66⟩
theorem yv_X3_49 : zYV RX3 49 yX3_sum cX3_sum 6 (some .long) 2 := ⟨wm_4_33, wm_4_47, wm_1_9, ⟨by decide +kernel, by decide +kernel, by decide +kernel⟩, wm_4_32, zts (y := yX3_sum) (n := 2) (by decide +kernel) rfl⟩
theorem yv_X3_72 : zYS RX3 72 yJ9_min_f86c9 cJ9_min_f86c9 4 (some .long) 2 := ⟨wm_4_61, wm_4_59, wm_1_16, ⟨by decide +kernel, by decide +kernel, by decide +kernel⟩, wm_4_60⟩
theorem yv_X3_77 : zYS RX3 77 yJ9_max_f86c9 cJ9_max_f86c9 4 (some .long) 2 := ⟨wm_4_64, wm_4_62, wm_1_16, ⟨by decide +kernel, by decide +kernel, by decide +kernel⟩, wm_4_63⟩
theorem yv_X4_29 : zYS RX4 29 yJ9_min_7cf53 cJ9_min_7cf53 2 (some .int) 2 := ⟨wm_2_185, wm_4_81, wm_1_16, ⟨by decide +kernel, by decide +kernel, by decide +kernel⟩, wm_2_184⟩
theorem yv_X5_40 : zYV RX5 40 yX5_goTo cX5_goTo 2 none 1 := ⟨wm_3_139, wm_3_136, wm_1_8, ⟨by decide +kernel, by decide +kernel, by decide +kernel⟩, wm_3_138, zts (y := yX5_goTo) (n := 9) (by decide +kernel) rfl⟩
theorem yv_X5_44 : zYV RX5 44 yX5_advance cX5_advance 1 none 0 := ⟨wm_3_143, wm_3_140, wm_1_8, ⟨by decide +kernel, by decide +kernel, by decide +kernel⟩, wm_3_142, zts (y := yX5_advance) (n := 9) (by decide +kernel) rfl⟩
theorem yv_X5_48 : zYS RX5 48 yJ9_min_7cf53 cJ9_min_7cf53 2 (some .int) 2 := ⟨wm_2_185, wm_3_145, wm_1_16, ⟨by decide +kernel, by decide +kernel, by decide +kernel⟩, wm_2_184⟩
theorem yv_X5_54 : zYV RX5 54 yX5_fail cX5_fail 3 none 2 := ⟨wm_3_214, wm_3_219, wm_1_8, ⟨by decide +kernel, by decide +kernel, by decide +kernel⟩, wm_3_213, zts (y := yX5_fail) (n := 9) (by decide +kernel) rfl⟩
theorem yv_X5_58 : zYV RX5 58 yX5_isWord cX5_isWord 3 (some .boolean) 1 := ⟨wm_3_162, wm_3_159, wm_1_8, ⟨by decide +kernel, by decide +kernel, by decide +kernel⟩, wm_3_161, zts (y := yX5_isWord) (n := 9) (by decide +kernel) rfl⟩
theorem yv_X5_62 : zYV RX5 62 yJ0_length_8abf5 cJ0_length_8abf5 1 (some .int) 0 := ⟨wm_3_166, wm_3_163, wm_1_17, ⟨by decide +kernel, by decide +kernel, by decide +kernel⟩, wm_3_164, wm_3_165⟩
theorem yv_X5_67 : zYV RX5 67 yJ0_charAt_5068e cJ0_charAt_5068e 2 (some .char) 1 := ⟨wm_3_176, wm_3_173, wm_1_17, ⟨by decide +kernel, by decide +kernel, by decide +kernel⟩, wm_3_174, wm_3_175⟩
theorem yv_X6_107 : zYV RX6 107 yX6_readBand cX6_readBand 4 none 0 := ⟨wm_4_2, wm_3_239, wm_1_7, ⟨by decide +kernel, by decide +kernel, by decide +kernel⟩, wm_4_1, zts (y := yX6_readBand) (n := 5) (by decide +kernel) rfl⟩
theorem yv_X6_112 : zYV RX6 112 yX6_takeFirst cX6_takeFirst 3 (some .boolean) 2 := ⟨wm_4_15, wm_4_12, wm_1_7, ⟨by decide +kernel, by decide +kernel, by decide +kernel⟩, wm_4_14, zts (y := yX6_takeFirst) (n := 5) (by decide +kernel) rfl⟩
theorem yv_X6_124 : zYV RX6 124 yX6_readLadder cX6_readLadder 2 none 0 := ⟨wm_4_20, wm_4_17, wm_1_7, ⟨by decide +kernel, by decide +kernel, by decide +kernel⟩, wm_4_19, zts (y := yX6_readLadder) (n := 5) (by decide +kernel) rfl⟩
theorem yv_X6_160 : zYV RX6 160 yX6_readStep cX6_readStep 5 none 0 := ⟨wm_4_24, wm_4_21, wm_1_7, ⟨by decide +kernel, by decide +kernel, by decide +kernel⟩, wm_4_23, zts (y := yX6_readStep) (n := 5) (by decide +kernel) rfl⟩
theorem yv_X6_189 : zYS RX6 189 yJ9_min_f86c9 cJ9_min_f86c9 4 (some .long) 2 := ⟨wm_4_61, wm_4_74, wm_1_16, ⟨by decide +kernel, by decide +kernel, by decide +kernel⟩, wm_4_60⟩
theorem yv_X6_195 : zYS RX6 195 yJ9_max_f86c9 cJ9_max_f86c9 4 (some .long) 2 := ⟨wm_4_64, wm_4_75, wm_1_16, ⟨by decide +kernel, by decide +kernel, by decide +kernel⟩, wm_4_63⟩
theorem yv_X6_52 : zYV RX6 52 yX6_readContract cX6_readContract 2 none 0 := ⟨wm_3_153, wm_3_150, wm_1_7, ⟨by decide +kernel, by decide +kernel, by decide +kernel⟩, wm_3_152, zts (y := yX6_readContract) (n := 5) (by decide +kernel) rfl⟩
theorem yv_X6_58 : zYV RX6 58 yX6_readStatement cX6_readStatement 2 none 0 := ⟨wm_3_237, wm_3_234, wm_1_7, ⟨by decide +kernel, by decide +kernel, by decide +kernel⟩, wm_3_236, zts (y := yX6_readStatement) (n := 5) (by decide +kernel) rfl⟩
theorem yv_X6_68 : zYV RX6 68 yX6_computeForecasts cX6_computeForecasts 5 none 0 := ⟨wm_4_71, wm_4_68, wm_1_7, ⟨by decide +kernel, by decide +kernel, by decide +kernel⟩, wm_4_70, zts (y := yX6_computeForecasts) (n := 5) (by decide +kernel) rfl⟩
theorem yv_X7_68 : zYV RX7 68 yX7_hasBand cX7_hasBand 2 (some .boolean) 1 := ⟨wm_4_6, wm_4_162, wm_1_3, ⟨by decide +kernel, by decide +kernel, by decide +kernel⟩, wm_4_5, zts (y := yX7_hasBand) (n := 16) (by decide +kernel) rfl⟩
theorem yv_X7_72 : zYV RX7 72 yX7_bandLead cX7_bandLead 3 (some .int) 1 := ⟨wm_4_161, wm_4_179, wm_1_3, ⟨by decide +kernel, by decide +kernel, by decide +kernel⟩, wm_4_160, zts (y := yX7_bandLead) (n := 16) (by decide +kernel) rfl⟩
theorem yv_X7_76 : zYV RX7 76 yX7_smallest cX7_smallest 4 (some .int) 2 := ⟨wm_4_183, wm_5_58, wm_1_3, ⟨by decide +kernel, by decide +kernel, by decide +kernel⟩, wm_4_182, zts (y := yX7_smallest) (n := 16) (by decide +kernel) rfl⟩
theorem yv_X7_80 : zYV RX7 80 yX7_greatest cX7_greatest 4 (some .int) 2 := ⟨wm_4_178, wm_5_59, wm_1_3, ⟨by decide +kernel, by decide +kernel, by decide +kernel⟩, wm_4_177, zts (y := yX7_greatest) (n := 16) (by decide +kernel) rfl⟩
theorem yv_X7_83 : zYS RX7 83 yJ9_max_7cf53 cJ9_max_7cf53 2 (some .int) 2 := ⟨wm_3_0, wm_5_60, wm_1_16, ⟨by decide +kernel, by decide +kernel, by decide +kernel⟩, wm_2_239⟩
theorem yv_X8_47 : zYS RX8 47 yJ9_min_7cf53 cJ9_min_7cf53 2 (some .int) 2 := ⟨wm_2_185, wm_2_183, wm_1_16, ⟨by decide +kernel, by decide +kernel, by decide +kernel⟩, wm_2_184⟩
theorem yv_X8_64 : zYV RX8 64 yX8_extend cX8_extend 6 none 4 := ⟨wm_2_204, wm_2_201, wm_1_10, ⟨by decide +kernel, by decide +kernel, by decide +kernel⟩, wm_2_203, zts (y := yX8_extend) (n := 8) (by decide +kernel) rfl⟩
theorem yv_X8_74 : zYV RX8 74 yX8_fits cX8_fits 5 (some .boolean) 3 := ⟨wm_2_211, wm_2_208, wm_1_10, ⟨by decide +kernel, by decide +kernel, by decide +kernel⟩, wm_2_210, zts (y := yX8_fits) (n := 8) (by decide +kernel) rfl⟩
theorem yv_X9_103 : zYV RX9 103 yX9_checkPeriod cX9_checkPeriod 2 none 1 := ⟨wm_4_94, wm_4_91, wm_1_1, ⟨by decide +kernel, by decide +kernel, by decide +kernel⟩, wm_4_93, zts (y := yX9_checkPeriod) (n := 7) (by decide +kernel) rfl⟩
theorem yv_X9_140 : zYV RX9 140 yX9_checkLead cX9_checkLead 2 none 1 := ⟨wm_4_156, wm_4_153, wm_1_1, ⟨by decide +kernel, by decide +kernel, by decide +kernel⟩, wm_4_155, zts (y := yX9_checkLead) (n := 7) (by decide +kernel) rfl⟩
theorem yv_X9_146 : zYV RX9 146 yX9_checkUnits cX9_checkUnits 2 none 1 := ⟨wm_4_173, wm_4_170, wm_1_1, ⟨by decide +kernel, by decide +kernel, by decide +kernel⟩, wm_4_172, zts (y := yX9_checkUnits) (n := 7) (by decide +kernel) rfl⟩
theorem yv_X9_165 : zYV RX9 165 yX9_checkBreach cX9_checkBreach 2 none 1 := ⟨wm_4_205, wm_4_202, wm_1_1, ⟨by decide +kernel, by decide +kernel, by decide +kernel⟩, wm_4_204, zts (y := yX9_checkBreach) (n := 7) (by decide +kernel) rfl⟩
theorem yv_X9_212 : zYV RX9 212 yX9_cheapestLevel cX9_cheapestLevel 8 (some .int) 1 := ⟨wm_5_28, wm_5_25, wm_1_1, ⟨by decide +kernel, by decide +kernel, by decide +kernel⟩, wm_5_27, zts (y := yX9_cheapestLevel) (n := 7) (by decide +kernel) rfl⟩
theorem yv_X9_215 : zYV RX9 215 yX9_checkLaterPeriod cX9_checkLaterPeriod 3 none 2 := ⟨wm_5_48, wm_5_45, wm_1_1, ⟨by decide +kernel, by decide +kernel, by decide +kernel⟩, wm_5_47, zts (y := yX9_checkLaterPeriod) (n := 7) (by decide +kernel) rfl⟩
theorem yv_X9_219 : zYV RX9 219 yX9_recordIfBreach cX9_recordIfBreach 7 (some .int) 4 := ⟨wm_5_53, wm_5_50, wm_1_1, ⟨by decide +kernel, by decide +kernel, by decide +kernel⟩, wm_5_52, zts (y := yX9_recordIfBreach) (n := 7) (by decide +kernel) rfl⟩
theorem yv_X9_223 : zYV RX9 223 yX9_checkRunning cX9_checkRunning 1 none 0 := ⟨wm_5_75, wm_5_72, wm_1_1, ⟨by decide +kernel, by decide +kernel, by decide +kernel⟩, wm_5_74, zts (y := yX9_checkRunning) (n := 7) (by decide +kernel) rfl⟩
theorem yv_X9_253 : zYV RX9 253 yX9_balance cX9_balance 1 (some .long) 0 := ⟨wm_2_154, wm_3_42, wm_1_1, ⟨by decide +kernel, by decide +kernel, by decide +kernel⟩, wm_2_152, wm_2_153⟩
theorem yv_X9_284 : zYV RX9 284 yX9_costsAtLevel cX9_costsAtLevel 2 (some .long) 1 := ⟨wm_5_33, wm_5_30, wm_1_1, ⟨by decide +kernel, by decide +kernel, by decide +kernel⟩, wm_5_32, zts (y := yX9_costsAtLevel) (n := 7) (by decide +kernel) rfl⟩
theorem yv_L_103 : zYV RL 103 yX9_errorOffset cX9_errorOffset 1 (some .int) 0 := ⟨wm_2_142, wm_2_139, wm_1_1, ⟨by decide +kernel, by decide +kernel, by decide +kernel⟩, wm_2_140, wm_2_141⟩
theorem yv_L_106 : zYV RL 106 yX10_errorOffset cX10_errorOffset 1 (some .int) 0 := ⟨wm_6_85, wm_6_82, wm_1_11, ⟨by decide +kernel, by decide +kernel, by decide +kernel⟩, wm_6_83, wm_6_84⟩
theorem yv_L_107 : zYV RL 107 yX9_periodCount cX9_periodCount 1 (some .int) 0 := ⟨wm_2_146, wm_2_143, wm_1_1, ⟨by decide +kernel, by decide +kernel, by decide +kernel⟩, wm_2_144, wm_2_145⟩
theorem yv_L_110 : zYV RL 110 yX10_periodCount cX10_periodCount 1 (some .int) 0 := ⟨wm_6_89, wm_6_86, wm_1_11, ⟨by decide +kernel, by decide +kernel, by decide +kernel⟩, wm_6_87, wm_6_88⟩
theorem yv_L_111 : zYV RL 111 yX9_clock cX9_clock 1 (some .int) 0 := ⟨wm_2_150, wm_2_147, wm_1_1, ⟨by decide +kernel, by decide +kernel, by decide +kernel⟩, wm_2_148, wm_2_149⟩
theorem yv_L_114 : zYV RL 114 yX10_clock cX10_clock 1 (some .int) 0 := ⟨wm_6_93, wm_6_90, wm_1_11, ⟨by decide +kernel, by decide +kernel, by decide +kernel⟩, wm_6_91, wm_6_92⟩
theorem yv_L_117 : zYV RL 117 yX10_reservedIn cX10_reservedIn 2 (some .int) 1 := ⟨wm_6_97, wm_6_94, wm_1_11, ⟨by decide +kernel, by decide +kernel, by decide +kernel⟩, wm_6_95, wm_6_96⟩
theorem yv_L_120 : zYV RL 120 yX10_forecastOf cX10_forecastOf 2 (some .int) 1 := ⟨wm_6_105, wm_6_102, wm_1_11, ⟨by decide +kernel, by decide +kernel, by decide +kernel⟩, wm_6_103, wm_6_104⟩
theorem yv_L_123 : zYV RL 123 yX10_orderOf cX10_orderOf 2 (some .int) 1 := ⟨wm_6_109, wm_6_106, wm_1_11, ⟨by decide +kernel, by decide +kernel, by decide +kernel⟩, wm_6_107, wm_6_108⟩
theorem yv_L_126 : zYV RL 126 yX10_openUnits cX10_openUnits 2 (some .int) 1 := ⟨wm_6_113, wm_6_110, wm_1_11, ⟨by decide +kernel, by decide +kernel, by decide +kernel⟩, wm_6_111, wm_6_112⟩
theorem yv_L_129 : zYV RL 129 yX10_missedUnits cX10_missedUnits 2 (some .int) 1 := ⟨wm_6_117, wm_6_114, wm_1_11, ⟨by decide +kernel, by decide +kernel, by decide +kernel⟩, wm_6_115, wm_6_116⟩
theorem yv_L_132 : zYV RL 132 yX10_invoice cX10_invoice 2 (some .long) 1 := ⟨wm_6_121, wm_6_118, wm_1_11, ⟨by decide +kernel, by decide +kernel, by decide +kernel⟩, wm_6_119, wm_6_120⟩
theorem yv_L_133 : zYV RL 133 yX9_balance cX9_balance 1 (some .long) 0 := ⟨wm_2_154, wm_2_151, wm_1_1, ⟨by decide +kernel, by decide +kernel, by decide +kernel⟩, wm_2_152, wm_2_153⟩
theorem yv_L_136 : zYV RL 136 yX10_balance cX10_balance 1 (some .long) 0 := ⟨wm_6_125, wm_6_122, wm_1_11, ⟨by decide +kernel, by decide +kernel, by decide +kernel⟩, wm_6_123, wm_6_124⟩
theorem yv_L_139 : zYV RL 139 yX10_bandFor cX10_bandFor 2 (some .int) 1 := ⟨wm_6_136, wm_6_133, wm_1_11, ⟨by decide +kernel, by decide +kernel, by decide +kernel⟩, wm_6_134, wm_6_135⟩
theorem yv_L_143 : zYV RL 143 yX10_allowed cX10_allowed 4 (some .int) 3 := ⟨wm_6_144, wm_6_141, wm_1_11, ⟨by decide +kernel, by decide +kernel, by decide +kernel⟩, wm_6_142, wm_6_143⟩
theorem yv_L_147 : zYV RL 147 yX10_penaltyFor cX10_penaltyFor 3 (some .int) 2 := ⟨wm_6_152, wm_6_149, wm_1_11, ⟨by decide +kernel, by decide +kernel, by decide +kernel⟩, wm_6_150, wm_6_151⟩
theorem yv_L_148 : zYV RL 148 yX9_breachCount cX9_breachCount 1 (some .int) 0 := ⟨wm_2_166, wm_2_163, wm_1_1, ⟨by decide +kernel, by decide +kernel, by decide +kernel⟩, wm_2_164, wm_2_165⟩
theorem yv_L_15 : zYV RL 15 yX9_reservedIn cX9_reservedIn 2 (some .int) 1 := ⟨wm_4_90, wm_4_87, wm_1_1, ⟨by decide +kernel, by decide +kernel, by decide +kernel⟩, wm_4_88, wm_4_89⟩
theorem yv_L_151 : zYV RL 151 yX10_breachCount cX10_breachCount 1 (some .int) 0 := ⟨wm_6_160, wm_6_157, wm_1_11, ⟨by decide +kernel, by decide +kernel, by decide +kernel⟩, wm_6_158, wm_6_159⟩
theorem yv_L_152 : zYV RL 152 yX9_allBreaches cX9_allBreaches 1 (some .int) 0 := ⟨wm_2_170, wm_2_167, wm_1_1, ⟨by decide +kernel, by decide +kernel, by decide +kernel⟩, wm_2_168, wm_2_169⟩
theorem yv_L_155 : zYV RL 155 yX10_allBreaches cX10_allBreaches 1 (some .int) 0 := ⟨wm_6_164, wm_6_161, wm_1_11, ⟨by decide +kernel, by decide +kernel, by decide +kernel⟩, wm_6_162, wm_6_163⟩
theorem yv_L_158 : zYV RL 158 yX10_breachPeriod cX10_breachPeriod 2 (some .int) 1 := ⟨wm_6_168, wm_6_165, wm_1_11, ⟨by decide +kernel, by decide +kernel, by decide +kernel⟩, wm_6_166, wm_6_167⟩
theorem yv_L_161 : zYV RL 161 yX10_breachKind cX10_breachKind 2 (some .int) 1 := ⟨wm_6_176, wm_6_173, wm_1_11, ⟨by decide +kernel, by decide +kernel, by decide +kernel⟩, wm_6_174, wm_6_175⟩
theorem yv_L_164 : zYV RL 164 yX10_breachPenalty cX10_breachPenalty 2 (some .int) 1 := ⟨wm_6_180, wm_6_177, wm_1_11, ⟨by decide +kernel, by decide +kernel, by decide +kernel⟩, wm_6_178, wm_6_179⟩
theorem yv_L_167 : zYV RL 167 yX10_isWaived cX10_isWaived 2 (some .boolean) 1 := ⟨wm_6_184, wm_6_181, wm_1_11, ⟨by decide +kernel, by decide +kernel, by decide +kernel⟩, wm_6_182, wm_6_183⟩
theorem yv_L_168 : zYV RL 168 yX9_waiversLeft cX9_waiversLeft 1 (some .int) 0 := ⟨wm_2_174, wm_2_171, wm_1_1, ⟨by decide +kernel, by decide +kernel, by decide +kernel⟩, wm_2_172, wm_2_173⟩
theorem yv_L_171 : zYV RL 171 yX10_waiversLeft cX10_waiversLeft 1 (some .int) 0 := ⟨wm_6_188, wm_6_185, wm_1_11, ⟨by decide +kernel, by decide +kernel, by decide +kernel⟩, wm_6_186, wm_6_187⟩
theorem yv_L_172 : zYV RL 172 yX9_bestWaiving cX9_bestWaiving 1 (some .int) 0 := ⟨wm_2_178, wm_2_175, wm_1_1, ⟨by decide +kernel, by decide +kernel, by decide +kernel⟩, wm_2_176, wm_2_177⟩
theorem yv_L_175 : zYV RL 175 yX10_bestWaiving cX10_bestWaiving 1 (some .int) 0 := ⟨wm_6_196, wm_6_193, wm_1_11, ⟨by decide +kernel, by decide +kernel, by decide +kernel⟩, wm_6_194, wm_6_195⟩
theorem yv_L_178 : zYV RL 178 yX10_bestWaiver cX10_bestWaiver 2 (some .int) 1 := ⟨wm_6_219, wm_6_216, wm_1_11, ⟨by decide +kernel, by decide +kernel, by decide +kernel⟩, wm_6_217, wm_6_218⟩
theorem yv_L_179 : zYV RL 179 yX9_projected cX9_projected 1 (some .long) 0 := ⟨wm_2_216, wm_2_213, wm_1_1, ⟨by decide +kernel, by decide +kernel, by decide +kernel⟩, wm_2_214, wm_2_215⟩
theorem yv_L_182 : zYV RL 182 yX10_projected cX10_projected 1 (some .long) 0 := ⟨wm_6_223, wm_6_220, wm_1_11, ⟨by decide +kernel, by decide +kernel, by decide +kernel⟩, wm_6_221, wm_6_222⟩
theorem yv_L_185 : zYV RL 185 yX10_bestReserved cX10_bestReserved 8 (some .int) 1 := ⟨wm_7_9, wm_7_6, wm_1_11, ⟨by decide +kernel, by decide +kernel, by decide +kernel⟩, wm_7_7, wm_7_8⟩
theorem yv_L_188 : zYV RL 188 yX10_forecast cX10_forecast 5 (some .int) 2 := ⟨wm_7_13, wm_7_10, wm_1_11, ⟨by decide +kernel, by decide +kernel, by decide +kernel⟩, wm_7_11, wm_7_12⟩
theorem yv_L_191 : zYV RL 191 yX10_order cX10_order 4 (some .int) 1 := ⟨wm_7_25, wm_7_22, wm_1_11, ⟨by decide +kernel, by decide +kernel, by decide +kernel⟩, wm_7_23, wm_7_24⟩
theorem yv_L_195 : zYV RL 195 yX10_close cX10_close 1 (some .long) 0 := ⟨wm_7_29, wm_7_26, wm_1_11, ⟨by decide +kernel, by decide +kernel, by decide +kernel⟩, wm_7_27, wm_7_28⟩
theorem yv_L_198 : zYV RL 198 yX10_reserve cX10_reserve 5 (some .int) 2 := ⟨wm_7_33, wm_7_30, wm_1_11, ⟨by decide +kernel, by decide +kernel, by decide +kernel⟩, wm_7_31, wm_7_32⟩
theorem yv_L_20 : zYV RL 20 yX9_forecastOf cX9_forecastOf 2 (some .int) 1 := ⟨wm_4_117, wm_4_114, wm_1_1, ⟨by decide +kernel, by decide +kernel, by decide +kernel⟩, wm_4_115, wm_4_116⟩
theorem yv_L_201 : zYV RL 201 yX10_waive cX10_waive 2 (some .int) 1 := ⟨wm_7_37, wm_7_34, wm_1_11, ⟨by decide +kernel, by decide +kernel, by decide +kernel⟩, wm_7_35, wm_7_36⟩
theorem yv_L_202 : zYV RL 202 yX9_undo cX9_undo 1 (some .int) 0 := ⟨wm_3_17, wm_3_14, wm_1_1, ⟨by decide +kernel, by decide +kernel, by decide +kernel⟩, wm_3_15, wm_3_16⟩
theorem yv_L_205 : zYV RL 205 yX10_undo cX10_undo 1 (some .int) 0 := ⟨wm_7_41, wm_7_38, wm_1_11, ⟨by decide +kernel, by decide +kernel, by decide +kernel⟩, wm_7_39, wm_7_40⟩
theorem yv_L_206 : zYV RL 206 yX9_checksum cX9_checksum 3 (some .long) 0 := ⟨wm_3_40, wm_3_37, wm_1_1, ⟨by decide +kernel, by decide +kernel, by decide +kernel⟩, wm_3_38, wm_3_39⟩
theorem yv_L_209 : zYV RL 209 yX10_checksum cX10_checksum 5 (some .long) 0 := ⟨wm_7_45, wm_7_42, wm_1_11, ⟨by decide +kernel, by decide +kernel, by decide +kernel⟩, wm_7_43, wm_7_44⟩
theorem yv_L_23 : zYV RL 23 yX9_orderOf cX9_orderOf 2 (some .int) 1 := ⟨wm_4_124, wm_4_121, wm_1_1, ⟨by decide +kernel, by decide +kernel, by decide +kernel⟩, wm_4_122, wm_4_123⟩
theorem yv_L_26 : zYV RL 26 yX9_openUnits cX9_openUnits 2 (some .int) 1 := ⟨wm_4_131, wm_4_128, wm_1_1, ⟨by decide +kernel, by decide +kernel, by decide +kernel⟩, wm_4_129, wm_4_130⟩
theorem yv_L_29 : zYV RL 29 yX9_missedUnits cX9_missedUnits 2 (some .int) 1 := ⟨wm_4_138, wm_4_135, wm_1_1, ⟨by decide +kernel, by decide +kernel, by decide +kernel⟩, wm_4_136, wm_4_137⟩
theorem yv_L_32 : zYV RL 32 yX9_invoice cX9_invoice 2 (some .long) 1 := ⟨wm_4_145, wm_4_142, wm_1_1, ⟨by decide +kernel, by decide +kernel, by decide +kernel⟩, wm_4_143, wm_4_144⟩
theorem yv_L_36 : zYV RL 36 yX9_bandFor cX9_bandFor 2 (some .int) 1 := ⟨wm_4_152, wm_4_149, wm_1_1, ⟨by decide +kernel, by decide +kernel, by decide +kernel⟩, wm_4_150, wm_4_151⟩
theorem yv_L_39 : zYV RL 39 yX9_allowed cX9_allowed 4 (some .int) 3 := ⟨wm_4_169, wm_4_166, wm_1_1, ⟨by decide +kernel, by decide +kernel, by decide +kernel⟩, wm_4_167, wm_4_168⟩
theorem yv_L_43 : zYV RL 43 yX9_penaltyFor cX9_penaltyFor 3 (some .int) 2 := ⟨wm_4_190, wm_4_187, wm_1_1, ⟨by decide +kernel, by decide +kernel, by decide +kernel⟩, wm_4_188, wm_4_189⟩
theorem yv_L_47 : zYV RL 47 yX9_breachPeriod cX9_breachPeriod 2 (some .int) 1 := ⟨wm_4_201, wm_4_198, wm_1_1, ⟨by decide +kernel, by decide +kernel, by decide +kernel⟩, wm_4_199, wm_4_200⟩
theorem yv_L_50 : zYV RL 50 yX9_breachKind cX9_breachKind 2 (some .int) 1 := ⟨wm_4_213, wm_4_210, wm_1_1, ⟨by decide +kernel, by decide +kernel, by decide +kernel⟩, wm_4_211, wm_4_212⟩
theorem yv_L_53 : zYV RL 53 yX9_breachPenalty cX9_breachPenalty 2 (some .int) 1 := ⟨wm_4_220, wm_4_217, wm_1_1, ⟨by decide +kernel, by decide +kernel, by decide +kernel⟩, wm_4_218, wm_4_219⟩
theorem yv_L_56 : zYV RL 56 yX9_isWaived cX9_isWaived 2 (some .boolean) 1 := ⟨wm_4_227, wm_4_224, wm_1_1, ⟨by decide +kernel, by decide +kernel, by decide +kernel⟩, wm_4_225, wm_4_226⟩
theorem yv_L_60 : zYV RL 60 yX9_bestWaiver cX9_bestWaiver 2 (some .int) 1 := ⟨wm_4_234, wm_4_231, wm_1_1, ⟨by decide +kernel, by decide +kernel, by decide +kernel⟩, wm_4_232, wm_4_233⟩
theorem yv_L_63 : zYV RL 63 yX9_bestReserved cX9_bestReserved 2 (some .int) 1 := ⟨wm_5_7, wm_5_4, wm_1_1, ⟨by decide +kernel, by decide +kernel, by decide +kernel⟩, wm_5_5, wm_5_6⟩
theorem yv_L_68 : zYV RL 68 yX9_forecast cX9_forecast 5 (some .int) 2 := ⟨wm_5_44, wm_5_41, wm_1_1, ⟨by decide +kernel, by decide +kernel, by decide +kernel⟩, wm_5_42, wm_5_43⟩
theorem yv_L_7 : zYV RL 7 yX9_load cX9_load 3 (some .int) 1 := ⟨wm_3_60, wm_3_57, wm_1_1, ⟨by decide +kernel, by decide +kernel, by decide +kernel⟩, wm_3_58, wm_3_59⟩
theorem yv_L_71 : zYV RL 71 yX9_order cX9_order 3 (some .int) 1 := ⟨wm_5_71, wm_5_68, wm_1_1, ⟨by decide +kernel, by decide +kernel, by decide +kernel⟩, wm_5_69, wm_5_70⟩
theorem yv_L_74 : zYV RL 74 yX9_close cX9_close 1 (some .long) 0 := ⟨wm_5_85, wm_5_82, wm_1_1, ⟨by decide +kernel, by decide +kernel, by decide +kernel⟩, wm_5_83, wm_5_84⟩
theorem yv_L_78 : zYV RL 78 yX9_reserve cX9_reserve 3 (some .int) 2 := ⟨wm_5_92, wm_5_89, wm_1_1, ⟨by decide +kernel, by decide +kernel, by decide +kernel⟩, wm_5_90, wm_5_91⟩
theorem yv_L_81 : zYV RL 81 yX9_waive cX9_waive 2 (some .int) 1 := ⟨wm_5_99, wm_5_96, wm_1_1, ⟨by decide +kernel, by decide +kernel, by decide +kernel⟩, wm_5_97, wm_5_98⟩
theorem yv_L_84 : zYI RL 84 yX9_init cX9_init 1 0 := ⟨wm_1_29, wm_1_27, wm_1_1, ⟨by decide +kernel, by decide +kernel, by decide +kernel⟩, wm_1_28, rfl⟩
theorem yv_L_87 : zYI RL 87 yX10_init cX10_init 1 0 := ⟨wm_5_110, wm_5_108, wm_1_11, ⟨by decide +kernel, by decide +kernel, by decide +kernel⟩, wm_5_109, rfl⟩
theorem yv_L_88 : zYV RL 88 yX9_append cX9_append 7 (some .int) 5 := ⟨wm_2_134, wm_2_131, wm_1_1, ⟨by decide +kernel, by decide +kernel, by decide +kernel⟩, wm_2_132, wm_2_133⟩
theorem yv_L_92 : zYV RL 92 yX10_append cX10_append 8 (some .int) 5 := ⟨wm_5_196, wm_5_193, wm_1_11, ⟨by decide +kernel, by decide +kernel, by decide +kernel⟩, wm_5_194, wm_5_195⟩
theorem yv_L_98 : zYV RL 98 yX10_load cX10_load 3 (some .int) 1 := ⟨wm_5_200, wm_5_197, wm_1_11, ⟨by decide +kernel, by decide +kernel, by decide +kernel⟩, wm_5_198, wm_5_199⟩
theorem yv_L_99 : zYV RL 99 yX10_thrown cX10_thrown 1 (some .int) 0 := ⟨wm_5_192, wm_5_189, wm_1_11, ⟨by decide +kernel, by decide +kernel, by decide +kernel⟩, wm_5_190, wm_5_191⟩
theorem yv_X10_107 : zYS RX10 107 yX10_min cX10_min 2 (some .int) 2 := ⟨wm_6_5, wm_6_3, wm_1_11, ⟨by decide +kernel, by decide +kernel, by decide +kernel⟩, wm_6_4⟩
theorem yv_X10_114 : zYV RX10 114 yX10_sum cX10_sum 2 none 0 := ⟨wm_6_43, wm_6_40, wm_1_11, ⟨by decide +kernel, by decide +kernel, by decide +kernel⟩, wm_6_42, zts (y := yX10_sum) (n := 24) (by decide +kernel) rfl⟩
theorem yv_X10_117 : zYV RX10 117 yX10_expect cX10_expect 2 none 1 := ⟨wm_6_9, wm_6_6, wm_1_11, ⟨by decide +kernel, by decide +kernel, by decide +kernel⟩, wm_6_8, zts (y := yX10_expect) (n := 24) (by decide +kernel) rfl⟩
theorem yv_X10_123 : zYV RX10 123 yX10_takeWord cX10_takeWord 3 (some .boolean) 1 := ⟨wm_5_216, wm_5_213, wm_1_11, ⟨by decide +kernel, by decide +kernel, by decide +kernel⟩, wm_5_215, zts (y := yX10_takeWord) (n := 24) (by decide +kernel) rfl⟩
theorem yv_X10_131 : zYV RX10 131 yX10_number cX10_number 4 (some .int) 2 := ⟨wm_5_238, wm_5_235, wm_1_11, ⟨by decide +kernel, by decide +kernel, by decide +kernel⟩, wm_5_237, zts (y := yX10_number) (n := 24) (by decide +kernel) rfl⟩
theorem yv_X10_134 : zYV RX10 134 yX10_emit cX10_emit 2 none 1 := ⟨wm_6_58, wm_6_55, wm_1_11, ⟨by decide +kernel, by decide +kernel, by decide +kernel⟩, wm_6_57, zts (y := yX10_emit) (n := 24) (by decide +kernel) rfl⟩
theorem yv_X10_137 : zYV RX10 137 yX10_factor cX10_factor 4 none 0 := ⟨wm_6_51, wm_6_48, wm_1_11, ⟨by decide +kernel, by decide +kernel, by decide +kernel⟩, wm_6_50, zts (y := yX10_factor) (n := 24) (by decide +kernel) rfl⟩
theorem yv_X10_140 : zYV RX10 140 yX10_term cX10_term 2 none 0 := ⟨wm_6_47, wm_6_44, wm_1_11, ⟨by decide +kernel, by decide +kernel, by decide +kernel⟩, wm_6_46, zts (y := yX10_term) (n := 24) (by decide +kernel) rfl⟩
theorem yv_X10_148 : zYS RX10 148 yX10_period cX10_period 1 (some .int) 1 := ⟨wm_6_12, wm_6_10, wm_1_11, ⟨by decide +kernel, by decide +kernel, by decide +kernel⟩, wm_6_11⟩
theorem yv_X10_150 : zYS RX10 150 yX10_band cX10_band 1 (some .int) 1 := ⟨wm_6_29, wm_6_27, wm_1_11, ⟨by decide +kernel, by decide +kernel, by decide +kernel⟩, wm_6_28⟩
theorem yv_X10_155 : zYV RX10 155 yX10_once cX10_once 3 none 2 := ⟨wm_6_21, wm_6_18, wm_1_11, ⟨by decide +kernel, by decide +kernel, by decide +kernel⟩, wm_6_20, zts (y := yX10_once) (n := 24) (by decide +kernel) rfl⟩
theorem yv_X10_159 : zYV RX10 159 yX10_readBand cX10_readBand 4 none 0 := ⟨wm_6_26, wm_6_23, wm_1_11, ⟨by decide +kernel, by decide +kernel, by decide +kernel⟩, wm_6_25, zts (y := yX10_readBand) (n := 24) (by decide +kernel) rfl⟩
theorem yv_X10_164 : zYV RX10 164 yX10_readLadder cX10_readLadder 4 none 0 := ⟨wm_6_34, wm_6_31, wm_1_11, ⟨by decide +kernel, by decide +kernel, by decide +kernel⟩, wm_6_33, zts (y := yX10_readLadder) (n := 24) (by decide +kernel) rfl⟩
theorem yv_X10_177 : zYV RX10 177 yX10_fails cX10_fails 3 (some .boolean) 2 := ⟨wm_5_207, wm_5_204, wm_1_11, ⟨by decide +kernel, by decide +kernel, by decide +kernel⟩, wm_5_206, zts (y := yX10_fails) (n := 24) (by decide +kernel) rfl⟩
theorem yv_X10_181 : zYV RX10 181 yX10_readContract cX10_readContract 3 none 0 := ⟨wm_5_211, wm_5_208, wm_1_11, ⟨by decide +kernel, by decide +kernel, by decide +kernel⟩, wm_5_210, zts (y := yX10_readContract) (n := 24) (by decide +kernel) rfl⟩
theorem yv_X10_184 : zYV RX10 184 yX10_statement cX10_statement 2 none 0 := ⟨wm_6_16, wm_6_13, wm_1_11, ⟨by decide +kernel, by decide +kernel, by decide +kernel⟩, wm_6_15, zts (y := yX10_statement) (n := 24) (by decide +kernel) rfl⟩
theorem yv_X10_187 : zYV RX10 187 yX10_demand cX10_demand 7 (some .int) 1 := ⟨wm_6_62, wm_6_59, wm_1_11, ⟨by decide +kernel, by decide +kernel, by decide +kernel⟩, wm_6_61, zts (y := yX10_demand) (n := 24) (by decide +kernel) rfl⟩
theorem yv_X10_189 : zYV RX10 189 yX10_remember cX10_remember 2 none 0 := ⟨wm_6_75, wm_6_72, wm_1_11, ⟨by decide +kernel, by decide +kernel, by decide +kernel⟩, wm_6_74, zts (y := yX10_remember) (n := 24) (by decide +kernel) rfl⟩
theorem yv_X10_192 : zYS RX10 192 yX10_copy cX10_copy 3 none 2 := ⟨wm_6_78, wm_6_76, wm_1_11, ⟨by decide +kernel, by decide +kernel, by decide +kernel⟩, wm_6_77⟩
theorem yv_X10_200 : zYS RX10 200 yX10_limited cX10_limited 2 (some .long) 1 := ⟨wm_6_68, wm_6_66, wm_1_11, ⟨by decide +kernel, by decide +kernel, by decide +kernel⟩, wm_6_67⟩
theorem yv_X10_204 : zYS RX10 204 yX10_operate cX10_operate 5 (some .long) 3 := ⟨wm_6_65, wm_6_63, wm_1_11, ⟨by decide +kernel, by decide +kernel, by decide +kernel⟩, wm_6_64⟩
theorem yv_X10_210 : zYV RX10 210 yX10_bandOf cX10_bandOf 3 (some .int) 1 := ⟨wm_6_140, wm_6_137, wm_1_11, ⟨by decide +kernel, by decide +kernel, by decide +kernel⟩, wm_6_139, zts (y := yX10_bandOf) (n := 24) (by decide +kernel) rfl⟩
theorem yv_X10_213 : zYV RX10 213 yX10_bound cX10_bound 5 (some .int) 3 := ⟨wm_6_148, wm_6_145, wm_1_11, ⟨by decide +kernel, by decide +kernel, by decide +kernel⟩, wm_6_147, zts (y := yX10_bound) (n := 24) (by decide +kernel) rfl⟩
theorem yv_X10_217 : zYS RX10 217 yX10_max cX10_max 2 (some .int) 2 := ⟨wm_6_239, wm_6_237, wm_1_11, ⟨by decide +kernel, by decide +kernel, by decide +kernel⟩, wm_6_238⟩
theorem yv_X10_220 : zYS RX10 220 yX10_breach cX10_breach 1 (some .int) 1 := ⟨wm_6_132, wm_6_130, wm_1_11, ⟨by decide +kernel, by decide +kernel, by decide +kernel⟩, wm_6_131⟩
theorem yv_X10_223 : zYV RX10 223 yX10_penaltyOf cX10_penaltyOf 6 (some .int) 2 := ⟨wm_6_156, wm_6_153, wm_1_11, ⟨by decide +kernel, by decide +kernel, by decide +kernel⟩, wm_6_155, zts (y := yX10_penaltyOf) (n := 24) (by decide +kernel) rfl⟩
theorem yv_X10_226 : zYS RX10 226 yX10_place cX10_place 3 none 3 := ⟨wm_6_236, wm_6_234, wm_1_11, ⟨by decide +kernel, by decide +kernel, by decide +kernel⟩, wm_6_235⟩
theorem yv_X10_230 : zYS RX10 230 yX10_deliver cX10_deliver 4 (some .int) 3 := ⟨wm_7_2, wm_7_0, wm_1_11, ⟨by decide +kernel, by decide +kernel, by decide +kernel⟩, wm_7_1⟩
theorem yv_X10_234 : zYS RX10 234 yX10_miss cX10_miss 3 (some .int) 2 := ⟨wm_7_5, wm_7_3, wm_1_11, ⟨by decide +kernel, by decide +kernel, by decide +kernel⟩, wm_7_4⟩
theorem yv_X10_237 : zYV RX10 237 yX10_noPeriod cX10_noPeriod 2 (some .boolean) 1 := ⟨wm_6_101, wm_6_98, wm_1_11, ⟨by decide +kernel, by decide +kernel, by decide +kernel⟩, wm_6_100, zts (y := yX10_noPeriod) (n := 24) (by decide +kernel) rfl⟩
theorem yv_X10_240 : zYV RX10 240 yX10_balanceNow cX10_balanceNow 4 (some .long) 0 := ⟨wm_6_129, wm_6_126, wm_1_11, ⟨by decide +kernel, by decide +kernel, by decide +kernel⟩, wm_6_128, zts (y := yX10_balanceNow) (n := 24) (by decide +kernel) rfl⟩
theorem yv_X10_244 : zYV RX10 244 yX10_noBreach cX10_noBreach 2 (some .boolean) 1 := ⟨wm_6_172, wm_6_169, wm_1_11, ⟨by decide +kernel, by decide +kernel, by decide +kernel⟩, wm_6_171, zts (y := yX10_noBreach) (n := 24) (by decide +kernel) rfl⟩
theorem yv_X10_247 : zYS RX10 247 yX10_size cX10_size 1 (some .int) 1 := ⟨wm_6_215, wm_6_213, wm_1_11, ⟨by decide +kernel, by decide +kernel, by decide +kernel⟩, wm_6_214⟩
theorem yv_X10_250 : zYV RX10 250 yX10_leftOver cX10_leftOver 3 (some .int) 0 := ⟨wm_6_192, wm_6_189, wm_1_11, ⟨by decide +kernel, by decide +kernel, by decide +kernel⟩, wm_6_191, zts (y := yX10_leftOver) (n := 24) (by decide +kernel) rfl⟩
theorem yv_X10_253 : zYV RX10 253 yX10_areApart cX10_areApart 3 (some .boolean) 2 := ⟨wm_6_212, wm_6_209, wm_1_11, ⟨by decide +kernel, by decide +kernel, by decide +kernel⟩, wm_6_211, zts (y := yX10_areApart) (n := 24) (by decide +kernel) rfl⟩
theorem yv_X10_263 : zYV RX10 263 yX10_canWaive cX10_canWaive 3 (some .boolean) 1 := ⟨wm_6_208, wm_6_205, wm_1_11, ⟨by decide +kernel, by decide +kernel, by decide +kernel⟩, wm_6_207, zts (y := yX10_canWaive) (n := 24) (by decide +kernel) rfl⟩
theorem yv_X10_266 : zYV RX10 266 yX10_trySets cX10_trySets 7 none 3 := ⟨wm_6_204, wm_6_201, wm_1_11, ⟨by decide +kernel, by decide +kernel, by decide +kernel⟩, wm_6_203, zts (y := yX10_trySets) (n := 24) (by decide +kernel) rfl⟩
theorem yv_X10_270 : zYV RX10 270 yX10_findBest cX10_findBest 1 none 0 := ⟨wm_6_200, wm_6_197, wm_1_11, ⟨by decide +kernel, by decide +kernel, by decide +kernel⟩, wm_6_199, zts (y := yX10_findBest) (n := 24) (by decide +kernel) rfl⟩
theorem yv_X10_273 : zYS RX10 273 yX10_isOpen cX10_isOpen 1 (some .boolean) 1 := ⟨wm_6_230, wm_6_228, wm_1_11, ⟨by decide +kernel, by decide +kernel, by decide +kernel⟩, wm_6_229⟩
theorem yv_X10_277 : zYS RX10 277 yX10_closeOne cX10_closeOne 11 none 2 := ⟨wm_6_233, wm_6_231, wm_1_11, ⟨by decide +kernel, by decide +kernel, by decide +kernel⟩, wm_6_232⟩
theorem yv_X10_281 : zYV RX10 281 yX10_project cX10_project 3 (some .long) 0 := ⟨wm_6_227, wm_6_224, wm_1_11, ⟨by decide +kernel, by decide +kernel, by decide +kernel⟩, wm_6_226, zts (y := yX10_project) (n := 24) (by decide +kernel) rfl⟩
theorem yv_X10_287 : zYS RX10 287 yX10_copyLongs cX10_copyLongs 3 none 2 := ⟨wm_6_81, wm_6_79, wm_1_11, ⟨by decide +kernel, by decide +kernel, by decide +kernel⟩, wm_6_80⟩
theorem yv_X10_291 : zYV RX10 291 yX10_excessOf cX10_excessOf 4 (some .int) 3 := ⟨wm_7_17, wm_7_14, wm_1_11, ⟨by decide +kernel, by decide +kernel, by decide +kernel⟩, wm_7_16, zts (y := yX10_excessOf) (n := 24) (by decide +kernel) rfl⟩
theorem yv_X10_295 : zYV RX10 295 yX10_note cX10_note 6 (some .int) 4 := ⟨wm_7_21, wm_7_18, wm_1_11, ⟨by decide +kernel, by decide +kernel, by decide +kernel⟩, wm_7_20, zts (y := yX10_note) (n := 24) (by decide +kernel) rfl⟩
theorem yv_X10_64 : zYV RX10 64 yX10_byteAt cX10_byteAt 2 (some .int) 1 := ⟨wm_5_228, wm_5_225, wm_1_11, ⟨by decide +kernel, by decide +kernel, by decide +kernel⟩, wm_5_227, zts (y := yX10_byteAt) (n := 24) (by decide +kernel) rfl⟩
theorem yv_X10_74 : zYS RX10 74 yX10_in cX10_in 3 (some .boolean) 3 := ⟨wm_5_203, wm_5_201, wm_1_11, ⟨by decide +kernel, by decide +kernel, by decide +kernel⟩, wm_5_202⟩
theorem yv_X10_78 : zYV RX10 78 yX10_isGood cX10_isGood 1 (some .boolean) 0 := ⟨wm_5_220, wm_5_217, wm_1_11, ⟨by decide +kernel, by decide +kernel, by decide +kernel⟩, wm_5_219, zts (y := yX10_isGood) (n := 24) (by decide +kernel) rfl⟩
theorem yv_X10_82 : zYV RX10 82 yX10_next cX10_next 1 (some .int) 0 := ⟨wm_5_224, wm_5_221, wm_1_11, ⟨by decide +kernel, by decide +kernel, by decide +kernel⟩, wm_5_223, zts (y := yX10_next) (n := 24) (by decide +kernel) rfl⟩
theorem yv_X10_86 : zYV RX10 86 yJ0_length_8abf5 cJ0_length_8abf5 1 (some .int) 0 := ⟨wm_3_166, wm_5_229, wm_1_17, ⟨by decide +kernel, by decide +kernel, by decide +kernel⟩, wm_3_164, wm_3_165⟩
theorem yv_X10_91 : zYV RX10 91 yJ0_charAt_5068e cJ0_charAt_5068e 2 (some .char) 1 := ⟨wm_3_176, wm_5_230, wm_1_17, ⟨by decide +kernel, by decide +kernel, by decide +kernel⟩, wm_3_174, wm_3_175⟩
theorem yv_X10_95 : zYV RX10 95 yX10_report cX10_report 3 none 2 := ⟨wm_5_234, wm_5_231, wm_1_11, ⟨by decide +kernel, by decide +kernel, by decide +kernel⟩, wm_5_233, zts (y := yX10_report) (n := 24) (by decide +kernel) rfl⟩
theorem yv_X10_99 : zYS RX10 99 yX10_isDigit cX10_isDigit 1 (some .boolean) 1 := ⟨wm_6_1, wm_5_239, wm_1_11, ⟨by decide +kernel, by decide +kernel, by decide +kernel⟩, wm_6_0⟩
theorem yv_J0_1059 : zYS RJ0 1059 yJ3_checkIndex_8e157 cJ3_checkIndex_8e157 3 (some .int) 3 := ⟨wm_3_191, wm_3_189, wm_1_19, ⟨by decide +kernel, by decide +kernel, by decide +kernel⟩, wm_3_190⟩
theorem yv_J0_335 : zYV RJ0 335 yJ0_coder_7d493 cJ0_coder_7d493 1 (some .byte) 0 := ⟨wm_3_170, wm_3_167, wm_1_17, ⟨by decide +kernel, by decide +kernel, by decide +kernel⟩, wm_3_168, wm_3_169⟩
theorem yv_J0_492 : zYV RJ0 492 yJ0_isLatin1_aae02 cJ0_isLatin1_aae02 1 (some .boolean) 0 := ⟨wm_3_180, wm_3_177, wm_1_17, ⟨by decide +kernel, by decide +kernel, by decide +kernel⟩, wm_3_178, wm_3_179⟩
theorem yv_J0_495 : zYS RJ0 495 yJ1_charAt_3b067 cJ1_charAt_3b067 2 (some .char) 2 := ⟨wm_3_183, wm_3_181, wm_1_18, ⟨by decide +kernel, by decide +kernel, by decide +kernel⟩, wm_3_182⟩
theorem yv_J0_498 : zYS RJ0 498 yJ2_charAt_3b067 cJ2_charAt_3b067 2 (some .char) 2 := ⟨wm_3_194, wm_3_192, wm_1_20, ⟨by decide +kernel, by decide +kernel, by decide +kernel⟩, wm_3_193⟩
theorem yv_J1_9 : zYS RJ1 9 yJ0_checkIndex_df160 cJ0_checkIndex_df160 2 none 2 := ⟨wm_3_186, wm_3_184, wm_1_17, ⟨by decide +kernel, by decide +kernel, by decide +kernel⟩, wm_3_185⟩
theorem yv_J2_414 : zYS RJ2 414 yJ0_checkIndex_df160 cJ0_checkIndex_df160 2 none 2 := ⟨wm_3_186, wm_3_201, wm_1_17, ⟨by decide +kernel, by decide +kernel, by decide +kernel⟩, wm_3_185⟩
theorem yv_J2_48 : zYS RJ2 48 yJ2_length_9d52b cJ2_length_9d52b 1 (some .int) 1 := ⟨wm_3_200, wm_3_198, wm_1_20, ⟨by decide +kernel, by decide +kernel, by decide +kernel⟩, wm_3_199⟩
theorem yv_J2_67 : zYS RJ2 67 yJ2_checkIndex_2214a cJ2_checkIndex_2214a 2 none 2 := ⟨wm_3_197, wm_3_195, wm_1_20, ⟨by decide +kernel, by decide +kernel, by decide +kernel⟩, wm_3_196⟩
theorem yv_J2_71 : zYS RJ2 71 yJ2_getChar_3b067 cJ2_getChar_3b067 2 (some .char) 2 := ⟨wm_3_204, wm_3_202, wm_1_20, ⟨by decide +kernel, by decide +kernel, by decide +kernel⟩, wm_3_203⟩
theorem yv_X2_18 : zYJ RX2 18 yX0_init "SupplyContract" cX0_init 1 0 := ⟨wm_1_126, wm_1_124, wm_1_4, ⟨by decide +kernel, by decide +kernel, by decide +kernel⟩, wm_1_125, rfl⟩
theorem yv_X2_25 : zYJ RX2 25 yX1_init "SupplyContract" cX1_init 1 0 := ⟨wm_1_164, wm_1_162, wm_1_5, ⟨by decide +kernel, by decide +kernel, by decide +kernel⟩, wm_1_163, rfl⟩
theorem yv_X2_30 : zYN RX2 30 yX7_copyFrom "SupplyContract" cX7_copyFrom 2 none 1 := ⟨wm_3_29, wm_3_26, wm_1_3, ⟨by decide +kernel, by decide +kernel, by decide +kernel⟩, wm_3_28, zts (y := yX7_copyFrom) (n := 16) (by decide +kernel) rfl⟩
theorem yv_X2_34 : zYN RX2 34 yX0_copyFrom "SupplyContract" cX0_copyFrom 2 none 1 := ⟨wm_2_220, wm_3_31, wm_1_4, ⟨by decide +kernel, by decide +kernel, by decide +kernel⟩, wm_2_219, zts (y := yX0_copyFrom) (n := 7) (by decide +kernel) rfl⟩
theorem yv_X2_37 : zYN RX2 37 yX1_copyFrom "SupplyContract" cX1_copyFrom 2 none 1 := ⟨wm_3_35, wm_3_32, wm_1_5, ⟨by decide +kernel, by decide +kernel, by decide +kernel⟩, wm_3_34, zts (y := yX1_copyFrom) (n := 7) (by decide +kernel) rfl⟩
theorem yv_X2_9 : zYJ RX2 9 yX7_init "SupplyContract" cX7_init 1 0 := ⟨wm_1_43, wm_1_41, wm_1_3, ⟨by decide +kernel, by decide +kernel, by decide +kernel⟩, wm_1_42, rfl⟩
theorem yv_X3_22 : zYN RX3 22 yX5_takeSign "SupplyContract" cX5_takeSign 3 (some .boolean) 1 := ⟨wm_4_46, wm_4_43, wm_1_8, ⟨by decide +kernel, by decide +kernel, by decide +kernel⟩, wm_4_45, zts (y := yX5_takeSign) (n := 9) (by decide +kernel) rfl⟩
theorem yv_X3_45 : zYN RX3 45 yX5_fail "SupplyContract" cX5_fail 3 none 2 := ⟨wm_3_214, wm_4_42, wm_1_8, ⟨by decide +kernel, by decide +kernel, by decide +kernel⟩, wm_3_213, zts (y := yX5_fail) (n := 9) (by decide +kernel) rfl⟩
theorem yv_X3_52 : zYN RX3 52 yX5_sign "SupplyContract" cX5_sign 2 none 1 := ⟨wm_3_233, wm_4_48, wm_1_8, ⟨by decide +kernel, by decide +kernel, by decide +kernel⟩, wm_3_232, zts (y := yX5_sign) (n := 9) (by decide +kernel) rfl⟩
theorem yv_X3_57 : zYN RX3 57 yX5_takeWord "SupplyContract" cX5_takeWord 3 (some .boolean) 1 := ⟨wm_3_158, wm_4_50, wm_1_8, ⟨by decide +kernel, by decide +kernel, by decide +kernel⟩, wm_3_157, zts (y := yX5_takeWord) (n := 9) (by decide +kernel) rfl⟩
theorem yv_X3_64 : zYN RX3 64 yX5_number "SupplyContract" cX5_number 4 (some .int) 2 := ⟨wm_3_218, wm_4_53, wm_1_8, ⟨by decide +kernel, by decide +kernel, by decide +kernel⟩, wm_3_217, zts (y := yX5_number) (n := 9) (by decide +kernel) rfl⟩
theorem yv_X4_24 : zYJ RX4 24 yX2_init "SupplyContract" cX2_init 1 0 := ⟨wm_1_37, wm_4_80, wm_1_2, ⟨by decide +kernel, by decide +kernel, by decide +kernel⟩, wm_1_36, rfl⟩
theorem yv_X4_25 : zYN RX4 25 yX2_copyFrom "SupplyContract" cX2_copyFrom 2 none 1 := ⟨wm_3_25, wm_3_22, wm_1_2, ⟨by decide +kernel, by decide +kernel, by decide +kernel⟩, wm_3_24, zts (y := yX2_copyFrom) (n := 3) (by decide +kernel) rfl⟩
theorem yv_X6_11 : zYJ RX6 11 yX5_init "SupplyContract" cX5_init 1 0 := ⟨wm_2_2, wm_2_0, wm_1_8, ⟨by decide +kernel, by decide +kernel, by decide +kernel⟩, wm_2_1, rfl⟩
theorem yv_X6_148 : zYN RX6 148 yX3_sum "SupplyContract" cX3_sum 6 (some .long) 2 := ⟨wm_4_33, wm_4_30, wm_1_9, ⟨by decide +kernel, by decide +kernel, by decide +kernel⟩, wm_4_32, zts (y := yX3_sum) (n := 2) (by decide +kernel) rfl⟩
theorem yv_X6_152 : zYN RX6 152 yX7_hasBand "SupplyContract" cX7_hasBand 2 (some .boolean) 1 := ⟨wm_4_6, wm_4_3, wm_1_3, ⟨by decide +kernel, by decide +kernel, by decide +kernel⟩, wm_4_5, zts (y := yX7_hasBand) (n := 16) (by decide +kernel) rfl⟩
theorem yv_X6_156 : zYN RX6 156 yX7_addBand "SupplyContract" cX7_addBand 4 none 3 := ⟨wm_4_10, wm_4_7, wm_1_3, ⟨by decide +kernel, by decide +kernel, by decide +kernel⟩, wm_4_9, zts (y := yX7_addBand) (n := 16) (by decide +kernel) rfl⟩
theorem yv_X6_173 : zYN RX6 173 yX5_goTo "SupplyContract" cX5_goTo 2 none 1 := ⟨wm_3_139, wm_4_72, wm_1_8, ⟨by decide +kernel, by decide +kernel, by decide +kernel⟩, wm_3_138, zts (y := yX5_goTo) (n := 9) (by decide +kernel) rfl⟩
theorem yv_X6_20 : zYJ RX6 20 yX3_init "SupplyContract" cX3_init 1 0 := ⟨wm_2_44, wm_2_42, wm_1_9, ⟨by decide +kernel, by decide +kernel, by decide +kernel⟩, wm_2_43, rfl⟩
theorem yv_X6_27 : zYJ RX6 27 yX2_init "SupplyContract" cX2_init 1 0 := ⟨wm_1_37, wm_2_56, wm_1_2, ⟨by decide +kernel, by decide +kernel, by decide +kernel⟩, wm_1_36, rfl⟩
theorem yv_X6_39 : zYN RX6 39 yX5_begin "SupplyContract" cX5_begin 2 none 1 := ⟨wm_3_135, wm_3_132, wm_1_8, ⟨by decide +kernel, by decide +kernel, by decide +kernel⟩, wm_3_134, zts (y := yX5_begin) (n := 9) (by decide +kernel) rfl⟩
theorem yv_X6_47 : zYN RX6 47 yX7_clear "SupplyContract" cX7_clear 1 none 0 := ⟨wm_3_149, wm_3_146, wm_1_3, ⟨by decide +kernel, by decide +kernel, by decide +kernel⟩, wm_3_148, zts (y := yX7_clear) (n := 16) (by decide +kernel) rfl⟩
theorem yv_X6_61 : zYN RX6 61 yX5_sign "SupplyContract" cX5_sign 2 none 1 := ⟨wm_3_233, wm_3_230, wm_1_8, ⟨by decide +kernel, by decide +kernel, by decide +kernel⟩, wm_3_232, zts (y := yX5_sign) (n := 9) (by decide +kernel) rfl⟩
theorem yv_X6_73 : zYN RX6 73 yX5_takeWord "SupplyContract" cX5_takeWord 3 (some .boolean) 1 := ⟨wm_3_158, wm_3_155, wm_1_8, ⟨by decide +kernel, by decide +kernel, by decide +kernel⟩, wm_3_157, zts (y := yX5_takeWord) (n := 9) (by decide +kernel) rfl⟩
theorem yv_X6_80 : zYN RX6 80 yX5_fail "SupplyContract" cX5_fail 3 none 2 := ⟨wm_3_214, wm_3_211, wm_1_8, ⟨by decide +kernel, by decide +kernel, by decide +kernel⟩, wm_3_213, zts (y := yX5_fail) (n := 9) (by decide +kernel) rfl⟩
theorem yv_X6_84 : zYN RX6 84 yX5_number "SupplyContract" cX5_number 4 (some .int) 2 := ⟨wm_3_218, wm_3_215, wm_1_8, ⟨by decide +kernel, by decide +kernel, by decide +kernel⟩, wm_3_217, zts (y := yX5_number) (n := 9) (by decide +kernel) rfl⟩
theorem yv_X6_95 : zYN RX6 95 yX0_clear "SupplyContract" cX0_clear 2 none 1 := ⟨wm_3_223, wm_3_220, wm_1_4, ⟨by decide +kernel, by decide +kernel, by decide +kernel⟩, wm_3_222, zts (y := yX0_clear) (n := 7) (by decide +kernel) rfl⟩
theorem yv_X8_60 : zYN RX8 60 yX1_canBeWaived "SupplyContract" cX1_canBeWaived 3 (some .boolean) 2 := ⟨wm_2_189, wm_2_186, wm_1_5, ⟨by decide +kernel, by decide +kernel, by decide +kernel⟩, wm_2_188, zts (y := yX1_canBeWaived) (n := 7) (by decide +kernel) rfl⟩
theorem yv_X8_78 : zYN RX8 78 yX1_distance "SupplyContract" cX1_distance 3 (some .int) 2 := ⟨wm_2_197, wm_2_212, wm_1_5, ⟨by decide +kernel, by decide +kernel, by decide +kernel⟩, wm_2_196, zts (y := yX1_distance) (n := 7) (by decide +kernel) rfl⟩
theorem yv_X9_126 : zYN RX9 126 yX0_invoiceSum "SupplyContract" cX0_invoiceSum 5 (some .long) 1 := ⟨wm_2_158, wm_2_155, wm_1_4, ⟨by decide +kernel, by decide +kernel, by decide +kernel⟩, wm_2_157, zts (y := yX0_invoiceSum) (n := 7) (by decide +kernel) rfl⟩
theorem yv_X9_134 : zYN RX9 134 yX1_unwaivedSum "SupplyContract" cX1_unwaivedSum 4 (some .long) 0 := ⟨wm_2_162, wm_2_159, wm_1_5, ⟨by decide +kernel, by decide +kernel, by decide +kernel⟩, wm_2_161, zts (y := yX1_unwaivedSum) (n := 7) (by decide +kernel) rfl⟩
theorem yv_X9_143 : zYN RX9 143 yX7_bandLead "SupplyContract" cX7_bandLead 3 (some .int) 1 := ⟨wm_4_161, wm_4_158, wm_1_3, ⟨by decide +kernel, by decide +kernel, by decide +kernel⟩, wm_4_160, zts (y := yX7_bandLead) (n := 16) (by decide +kernel) rfl⟩
theorem yv_X9_149 : zYN RX9 149 yX7_greatest "SupplyContract" cX7_greatest 4 (some .int) 2 := ⟨wm_4_178, wm_4_175, wm_1_3, ⟨by decide +kernel, by decide +kernel, by decide +kernel⟩, wm_4_177, zts (y := yX7_greatest) (n := 16) (by decide +kernel) rfl⟩
theorem yv_X9_153 : zYN RX9 153 yX7_smallest "SupplyContract" cX7_smallest 4 (some .int) 2 := ⟨wm_4_183, wm_4_180, wm_1_3, ⟨by decide +kernel, by decide +kernel, by decide +kernel⟩, wm_4_182, zts (y := yX7_smallest) (n := 16) (by decide +kernel) rfl⟩
theorem yv_X9_156 : zYN RX9 156 yX7_penalty "SupplyContract" cX7_penalty 6 (some .int) 2 := ⟨wm_4_194, wm_4_191, wm_1_3, ⟨by decide +kernel, by decide +kernel, by decide +kernel⟩, wm_4_193, zts (y := yX7_penalty) (n := 16) (by decide +kernel) rfl⟩
theorem yv_X9_18 : zYJ RX9 18 yX4_init "SupplyContract" cX4_init 1 0 := ⟨wm_1_218, wm_1_216, wm_1_6, ⟨by decide +kernel, by decide +kernel, by decide +kernel⟩, wm_1_217, rfl⟩
theorem yv_X9_186 : zYN RX9 186 yX8_run "SupplyContract" cX8_run 4 none 2 := ⟨wm_2_182, wm_2_179, wm_1_10, ⟨by decide +kernel, by decide +kernel, by decide +kernel⟩, wm_2_181, zts (y := yX8_run) (n := 8) (by decide +kernel) rfl⟩
theorem yv_X9_195 : zYN RX9 195 yX8_breachAt "SupplyContract" cX8_breachAt 2 (some .int) 1 := ⟨wm_4_239, wm_4_236, wm_1_10, ⟨by decide +kernel, by decide +kernel, by decide +kernel⟩, wm_4_238, zts (y := yX8_breachAt) (n := 8) (by decide +kernel) rfl⟩
theorem yv_X9_198 : zYN RX9 198 yX0_copyFrom "SupplyContract" cX0_copyFrom 2 none 1 := ⟨wm_2_220, wm_2_217, wm_1_4, ⟨by decide +kernel, by decide +kernel, by decide +kernel⟩, wm_2_219, zts (y := yX0_copyFrom) (n := 7) (by decide +kernel) rfl⟩
theorem yv_X9_201 : zYN RX9 201 yX0_closeRest "SupplyContract" cX0_closeRest 5 (some .long) 1 := ⟨wm_2_225, wm_2_222, wm_1_4, ⟨by decide +kernel, by decide +kernel, by decide +kernel⟩, wm_2_224, zts (y := yX0_closeRest) (n := 7) (by decide +kernel) rfl⟩
theorem yv_X9_228 : zYN RX9 228 yX0_placeOrder "SupplyContract" cX0_placeOrder 2 none 1 := ⟨wm_2_233, wm_5_78, wm_1_4, ⟨by decide +kernel, by decide +kernel, by decide +kernel⟩, wm_2_232, zts (y := yX0_placeOrder) (n := 7) (by decide +kernel) rfl⟩
theorem yv_X9_231 : zYN RX9 231 yX0_closePeriod "SupplyContract" cX0_closePeriod 8 (some .long) 1 := ⟨wm_2_229, wm_5_29, wm_1_4, ⟨by decide +kernel, by decide +kernel, by decide +kernel⟩, wm_2_228, zts (y := yX0_closePeriod) (n := 7) (by decide +kernel) rfl⟩
theorem yv_X9_234 : zYN RX9 234 yX0_reserveFrom "SupplyContract" cX0_reserveFrom 6 (some .int) 3 := ⟨wm_5_37, wm_5_34, wm_1_4, ⟨by decide +kernel, by decide +kernel, by decide +kernel⟩, wm_5_36, zts (y := yX0_reserveFrom) (n := 7) (by decide +kernel) rfl⟩
theorem yv_X9_238 : zYN RX9 238 yX1_canBeWaived "SupplyContract" cX1_canBeWaived 3 (some .boolean) 2 := ⟨wm_2_189, wm_5_100, wm_1_5, ⟨by decide +kernel, by decide +kernel, by decide +kernel⟩, wm_2_188, zts (y := yX1_canBeWaived) (n := 7) (by decide +kernel) rfl⟩
theorem yv_X9_244 : zYN RX9 244 yX1_markWaived "SupplyContract" cX1_markWaived 2 (some .int) 1 := ⟨wm_5_105, wm_5_102, wm_1_5, ⟨by decide +kernel, by decide +kernel, by decide +kernel⟩, wm_5_104, zts (y := yX1_markWaived) (n := 7) (by decide +kernel) rfl⟩
theorem yv_X9_247 : zYN RX9 247 yX4_giveBack "SupplyContract" cX4_giveBack 4 (some .int) 1 := ⟨wm_3_21, wm_3_18, wm_1_6, ⟨by decide +kernel, by decide +kernel, by decide +kernel⟩, wm_3_20, zts (y := yX4_giveBack) (n := 3) (by decide +kernel) rfl⟩
theorem yv_X9_25 : zYJ RX9 25 yX6_init "SupplyContract" cX6_init 1 0 := ⟨wm_1_236, wm_1_234, wm_1_7, ⟨by decide +kernel, by decide +kernel, by decide +kernel⟩, wm_1_235, rfl⟩
theorem yv_X9_256 : zYN RX9 256 yX0_mixInto "SupplyContract" cX0_mixInto 7 (some .long) 2 := ⟨wm_3_46, wm_3_43, wm_1_4, ⟨by decide +kernel, by decide +kernel, by decide +kernel⟩, wm_3_45, zts (y := yX0_mixInto) (n := 7) (by decide +kernel) rfl⟩
theorem yv_X9_260 : zYN RX9 260 yX1_mixInto "SupplyContract" cX1_mixInto 6 (some .long) 1 := ⟨wm_3_51, wm_3_48, wm_1_5, ⟨by decide +kernel, by decide +kernel, by decide +kernel⟩, wm_3_50, zts (y := yX1_mixInto) (n := 7) (by decide +kernel) rfl⟩
theorem yv_X9_278 : zYN RX9 278 yX7_excess "SupplyContract" cX7_excess 6 (some .int) 3 := ⟨wm_5_57, wm_5_54, wm_1_3, ⟨by decide +kernel, by decide +kernel, by decide +kernel⟩, wm_5_56, zts (y := yX7_excess) (n := 16) (by decide +kernel) rfl⟩
theorem yv_X9_281 : zYN RX9 281 yX1_addBreach "SupplyContract" cX1_addBreach 4 (some .int) 3 := ⟨wm_5_64, wm_5_61, wm_1_5, ⟨by decide +kernel, by decide +kernel, by decide +kernel⟩, wm_5_63, zts (y := yX1_addBreach) (n := 7) (by decide +kernel) rfl⟩
theorem yv_X9_36 : zYJ RX9 36 yX8_init "SupplyContract" cX8_init 1 0 := ⟨wm_2_79, wm_2_77, wm_1_10, ⟨by decide +kernel, by decide +kernel, by decide +kernel⟩, wm_2_78, rfl⟩
theorem yv_X9_43 : zYJ RX9 43 yX0_init "SupplyContract" cX0_init 1 0 := ⟨wm_1_126, wm_2_108, wm_1_4, ⟨by decide +kernel, by decide +kernel, by decide +kernel⟩, wm_1_125, rfl⟩
theorem yv_X9_60 : zYN RX9 60 yX5_addWord "SupplyContract" cX5_addWord 3 none 1 := ⟨wm_2_138, wm_2_135, wm_1_8, ⟨by decide +kernel, by decide +kernel, by decide +kernel⟩, wm_2_137, zts (y := yX5_addWord) (n := 9) (by decide +kernel) rfl⟩
theorem yv_X9_71 : zYN RX9 71 yX6_read "SupplyContract" cX6_read 3 (some .int) 1 := ⟨wm_3_131, wm_3_128, wm_1_7, ⟨by decide +kernel, by decide +kernel, by decide +kernel⟩, wm_3_130, zts (y := yX6_read) (n := 5) (by decide +kernel) rfl⟩
theorem yv_X9_78 : zYN RX9 78 yX4_keep "SupplyContract" cX4_keep 3 none 1 := ⟨wm_4_79, wm_4_76, wm_1_6, ⟨by decide +kernel, by decide +kernel, by decide +kernel⟩, wm_4_78, zts (y := yX4_keep) (n := 3) (by decide +kernel) rfl⟩
theorem yv_X9_85 : zYN RX9 85 yX2_copyFrom "SupplyContract" cX2_copyFrom 2 none 1 := ⟨wm_3_25, wm_4_82, wm_1_2, ⟨by decide +kernel, by decide +kernel, by decide +kernel⟩, wm_3_24, zts (y := yX2_copyFrom) (n := 3) (by decide +kernel) rfl⟩
theorem yv_X9_9 : zYJ RX9 9 yX2_init "SupplyContract" cX2_init 1 0 := ⟨wm_1_37, wm_1_35, wm_1_2, ⟨by decide +kernel, by decide +kernel, by decide +kernel⟩, wm_1_36, rfl⟩
