def zU : List Cond := lw_tbl.filter goodWord
theorem zU_good : ∀ w ∈ zU, goodWord w = true := fun w h => (List.mem_filter.mp h).2
theorem zU_tbl : ∀ w ∈ zU, w ∈ lw_tbl := fun w h => (List.mem_filter.mp h).1
theorem zu_t {w : Cond} (h : w ∈ tables_1) (g : goodWord w = true) : w ∈ zU := List.mem_filter.mpr ⟨List.mem_append_right _ h, g⟩
theorem zu_s {q : MethodName × Nat} (h : q ∈ lw_privs) (g : goodWord (Cond.selects q.1.cls q.1 q.1) = true) : Cond.selects q.1.cls q.1 q.1 ∈ zU := List.mem_filter.mpr ⟨List.mem_append_left _ (List.mem_map.mpr ⟨q, h, rfl⟩), g⟩
theorem zu_l1 {w : Cond} (h : w ∈ tables_1_1) : w ∈ tables_1 := List.mem_append_left _ h
theorem zu_l2 {w : Cond} (h : w ∈ tables_1_2) : w ∈ tables_1 := List.mem_append_right _ (List.mem_append_left _ h)
theorem zu_l3 {w : Cond} (h : w ∈ tables_1_3) : w ∈ tables_1 := List.mem_append_right _ (List.mem_append_right _ (List.mem_append_left _ h))
theorem zu_l4 {w : Cond} (h : w ∈ tables_1_4) : w ∈ tables_1 := List.mem_append_right _ (List.mem_append_right _ (List.mem_append_right _ (List.mem_append_left _ h)))
theorem zu_l5 {w : Cond} (h : w ∈ tables_1_5) : w ∈ tables_1 := List.mem_append_right _ (List.mem_append_right _ (List.mem_append_right _ (List.mem_append_right _ (List.mem_append_left _ h))))
theorem zu_l6 {w : Cond} (h : w ∈ tables_1_6) : w ∈ tables_1 := List.mem_append_right _ (List.mem_append_right _ (List.mem_append_right _ (List.mem_append_right _ (List.mem_append_right _ (List.mem_append_left _ h)))))
theorem zu_l7 {w : Cond} (h : w ∈ tables_1_7) : w ∈ tables_1 := List.mem_append_right _ (List.mem_append_right _ (List.mem_append_right _ (List.mem_append_right _ (List.mem_append_right _ (List.mem_append_right _ (h))))))
theorem zu_0 : Cond.initialized "HandToHandLaw" ∈ zU := zu_t (zu_l1 (List.mem_of_getElem? (i := 0) rfl)) rfl
theorem zu_1 : Cond.initialized "HandToHand" ∈ zU := zu_t (zu_l1 (List.mem_of_getElem? (i := 1) rfl)) rfl
theorem zu_2 : Cond.initialized "HandToHand$Told" ∈ zU := zu_t (zu_l1 (List.mem_of_getElem? (i := 2) rfl)) rfl
theorem zu_3 : Cond.initialized "HandToHand$Reader" ∈ zU := zu_t (zu_l1 (List.mem_of_getElem? (i := 3) rfl)) rfl
theorem zu_4 : Cond.initialized "HandToHand$Bench" ∈ zU := zu_t (zu_l1 (List.mem_of_getElem? (i := 4) rfl)) rfl
theorem zu_5 : Cond.initialized "HandToHand$Course" ∈ zU := zu_t (zu_l1 (List.mem_of_getElem? (i := 5) rfl)) rfl
theorem zu_6 : Cond.initialized "HandToHand$Handings" ∈ zU := zu_t (zu_l1 (List.mem_of_getElem? (i := 6) rfl)) rfl
theorem zu_7 : Cond.initialized "HandToHand$Settling" ∈ zU := zu_t (zu_l1 (List.mem_of_getElem? (i := 7) rfl)) rfl
theorem zu_8 : Cond.initialized "HandToHand$Ring" ∈ zU := zu_t (zu_l1 (List.mem_of_getElem? (i := 8) rfl)) rfl
theorem zu_9 : Cond.initialized "HandToHand$Orders" ∈ zU := zu_t (zu_l1 (List.mem_of_getElem? (i := 9) rfl)) rfl
theorem zu_10 : Cond.initialized "HandToHand$Parts" ∈ zU := zu_t (zu_l1 (List.mem_of_getElem? (i := 10) rfl)) rfl
theorem zu_11 : Cond.initialized "HandToHand$Sheet" ∈ zU := zu_t (zu_l1 (List.mem_of_getElem? (i := 11) rfl)) rfl
theorem zu_12 : Cond.initialized "HandToHandModel" ∈ zU := zu_t (zu_l1 (List.mem_of_getElem? (i := 12) rfl)) rfl
theorem zu_13 : Cond.initialized "java/lang/String" ∈ zU := zu_t (zu_l1 (List.mem_of_getElem? (i := 13) rfl)) rfl
theorem zu_14 : Cond.initialized "java/lang/StringLatin1" ∈ zU := zu_t (zu_l1 (List.mem_of_getElem? (i := 14) rfl)) rfl
theorem zu_15 : Cond.initialized "jdk/internal/util/Preconditions" ∈ zU := zu_t (zu_l1 (List.mem_of_getElem? (i := 15) rfl)) rfl
theorem zu_16 : Cond.initialized "java/lang/StringUTF16" ∈ zU := zu_t (zu_l1 (List.mem_of_getElem? (i := 16) rfl)) rfl
theorem zu_17 : Cond.initialized "java/lang/System" ∈ zU := zu_t (zu_l1 (List.mem_of_getElem? (i := 17) rfl)) rfl
theorem zu_18 : Cond.classLink "HandToHandLaw" 7 "HandToHand" ∈ zU := zu_t (zu_l1 (List.mem_of_getElem? (i := 18) rfl)) rfl
theorem zu_19 : Cond.instantiable "HandToHand" 14 ∈ zU := zu_t (zu_l1 (List.mem_of_getElem? (i := 19) rfl)) rfl
theorem zu_20 : Cond.methodLink "HandToHandLaw" 9 ⟨"HandToHand", "<init>", "()V"⟩ ∈ zU := zu_t (zu_l1 (List.mem_of_getElem? (i := 20) rfl)) rfl
theorem zu_21 : Cond.instanceMethod ⟨"HandToHand", "<init>", "()V"⟩ ∈ zU := zu_t (zu_l1 (List.mem_of_getElem? (i := 21) rfl)) rfl
theorem zu_22 : Cond.code ⟨"HandToHand", "<init>", "()V"⟩ prog_1_method_1_code 2 none ∈ zU := zu_t (zu_l1 (List.mem_of_getElem? (i := 22) rfl)) rfl
theorem zu_23 : Cond.methodLink "HandToHand" 1 ⟨"java/lang/Object", "<init>", "()V"⟩ ∈ zU := zu_t (zu_l1 (List.mem_of_getElem? (i := 23) rfl)) rfl
theorem zu_24 : Cond.instanceMethod ⟨"java/lang/Object", "<init>", "()V"⟩ ∈ zU := zu_t (zu_l1 (List.mem_of_getElem? (i := 24) rfl)) rfl
theorem zu_25 : Cond.code ⟨"java/lang/Object", "<init>", "()V"⟩ object_method_1_code 1 none ∈ zU := zu_t (zu_l1 (List.mem_of_getElem? (i := 25) rfl)) rfl
theorem zu_26 : Cond.classLink "HandToHand" 7 "HandToHand$Told" ∈ zU := zu_t (zu_l1 (List.mem_of_getElem? (i := 26) rfl)) rfl
theorem zu_27 : Cond.instantiable "HandToHand$Told" 11 ∈ zU := zu_t (zu_l1 (List.mem_of_getElem? (i := 27) rfl)) rfl
theorem zu_29 : Cond.instanceMethod ⟨"HandToHand$Told", "<init>", "()V"⟩ ∈ zU := zu_t (zu_l1 (List.mem_of_getElem? (i := 29) rfl)) rfl
theorem zu_30 : Cond.code ⟨"HandToHand$Told", "<init>", "()V"⟩ prog_11_method_1_code 1 none ∈ zU := zu_t (zu_l1 (List.mem_of_getElem? (i := 30) rfl)) rfl
theorem zu_31 : Cond.methodLink "HandToHand$Told" 3 ⟨"java/lang/Object", "<init>", "()V"⟩ ∈ zU := zu_t (zu_l1 (List.mem_of_getElem? (i := 31) rfl)) rfl
theorem zu_32 : Cond.fieldLink "HandToHand$Told" 24 "HandToHand$Told" "pieces" "I" ∈ zU := zu_t (zu_l1 (List.mem_of_getElem? (i := 32) rfl)) rfl
theorem zu_33 : Cond.fieldLink "HandToHand$Settling" 91 "HandToHand$Told" "pieces" "I" ∈ zU := zu_t (zu_l1 (List.mem_of_getElem? (i := 33) rfl)) rfl
theorem zu_34 : Cond.fieldLink "HandToHand$Reader" 64 "HandToHand$Told" "pieces" "I" ∈ zU := zu_t (zu_l1 (List.mem_of_getElem? (i := 34) rfl)) rfl
theorem zu_35 : Cond.fieldLink "HandToHand" 142 "HandToHand$Told" "pieces" "I" ∈ zU := zu_t (zu_l1 (List.mem_of_getElem? (i := 35) rfl)) rfl
theorem zu_36 : Cond.fieldLink "HandToHand$Bench" 96 "HandToHand$Told" "pieces" "I" ∈ zU := zu_t (zu_l1 (List.mem_of_getElem? (i := 36) rfl)) rfl
theorem zu_37 : Cond.fieldLink "HandToHand$Told" 28 "HandToHand$Told" "hands" "I" ∈ zU := zu_t (zu_l1 (List.mem_of_getElem? (i := 37) rfl)) rfl
theorem zu_38 : Cond.fieldLink "HandToHand$Settling" 82 "HandToHand$Told" "hands" "I" ∈ zU := zu_t (zu_l1 (List.mem_of_getElem? (i := 38) rfl)) rfl
theorem zu_39 : Cond.fieldLink "HandToHand$Reader" 67 "HandToHand$Told" "hands" "I" ∈ zU := zu_t (zu_l1 (List.mem_of_getElem? (i := 39) rfl)) rfl
theorem zu_40 : Cond.fieldLink "HandToHand$Bench" 67 "HandToHand$Told" "hands" "I" ∈ zU := zu_t (zu_l1 (List.mem_of_getElem? (i := 40) rfl)) rfl
theorem zu_41 : Cond.fieldLink "HandToHand" 136 "HandToHand$Told" "hands" "I" ∈ zU := zu_t (zu_l1 (List.mem_of_getElem? (i := 41) rfl)) rfl
theorem zu_42 : Cond.fieldLink "HandToHand$Told" 31 "HandToHand$Told" "walk" "I" ∈ zU := zu_t (zu_l1 (List.mem_of_getElem? (i := 42) rfl)) rfl
theorem zu_43 : Cond.fieldLink "HandToHand" 145 "HandToHand$Told" "walk" "I" ∈ zU := zu_t (zu_l1 (List.mem_of_getElem? (i := 43) rfl)) rfl
theorem zu_44 : Cond.fieldLink "HandToHand$Bench" 119 "HandToHand$Told" "walk" "I" ∈ zU := zu_t (zu_l1 (List.mem_of_getElem? (i := 44) rfl)) rfl
theorem zu_45 : Cond.fieldLink "HandToHand$Reader" 152 "HandToHand$Told" "walk" "I" ∈ zU := zu_t (zu_l1 (List.mem_of_getElem? (i := 45) rfl)) rfl
theorem zu_46 : Cond.fieldLink "HandToHand$Told" 34 "HandToHand$Told" "learn" "I" ∈ zU := zu_t (zu_l1 (List.mem_of_getElem? (i := 46) rfl)) rfl
theorem zu_47 : Cond.fieldLink "HandToHand" 148 "HandToHand$Told" "learn" "I" ∈ zU := zu_t (zu_l1 (List.mem_of_getElem? (i := 47) rfl)) rfl
theorem zu_48 : Cond.fieldLink "HandToHand$Reader" 155 "HandToHand$Told" "learn" "I" ∈ zU := zu_t (zu_l1 (List.mem_of_getElem? (i := 48) rfl)) rfl
theorem zu_49 : Cond.fieldLink "HandToHand$Told" 37 "HandToHand$Told" "kind" "I" ∈ zU := zu_t (zu_l1 (List.mem_of_getElem? (i := 49) rfl)) rfl
theorem zu_50 : Cond.fieldLink "HandToHand" 151 "HandToHand$Told" "kind" "I" ∈ zU := zu_t (zu_l1 (List.mem_of_getElem? (i := 50) rfl)) rfl
theorem zu_51 : Cond.fieldLink "HandToHand$Reader" 158 "HandToHand$Told" "kind" "I" ∈ zU := zu_t (zu_l1 (List.mem_of_getElem? (i := 51) rfl)) rfl
theorem zu_52 : Cond.fieldLink "HandToHand$Told" 40 "HandToHand$Told" "whole" "I" ∈ zU := zu_t (zu_l1 (List.mem_of_getElem? (i := 52) rfl)) rfl
theorem zu_53 : Cond.fieldLink "HandToHand" 154 "HandToHand$Told" "whole" "I" ∈ zU := zu_t (zu_l1 (List.mem_of_getElem? (i := 53) rfl)) rfl
theorem zu_54 : Cond.fieldLink "HandToHand$Reader" 134 "HandToHand$Told" "whole" "I" ∈ zU := zu_t (zu_l1 (List.mem_of_getElem? (i := 54) rfl)) rfl
theorem zu_55 : Cond.fieldLink "HandToHand$Told" 43 "HandToHand$Told" "rowLength" "I" ∈ zU := zu_t (zu_l1 (List.mem_of_getElem? (i := 55) rfl)) rfl
theorem zu_56 : Cond.fieldLink "HandToHand" 129 "HandToHand$Told" "rowLength" "I" ∈ zU := zu_t (zu_l1 (List.mem_of_getElem? (i := 56) rfl)) rfl
theorem zu_57 : Cond.fieldLink "HandToHand$Bench" 106 "HandToHand$Told" "rowLength" "I" ∈ zU := zu_t (zu_l1 (List.mem_of_getElem? (i := 57) rfl)) rfl
theorem zu_58 : Cond.fieldLink "HandToHand$Reader" 143 "HandToHand$Told" "rowLength" "I" ∈ zU := zu_t (zu_l1 (List.mem_of_getElem? (i := 58) rfl)) rfl
theorem zu_59 : Cond.fieldLink "HandToHand$Told" 9 "HandToHand$Told" "row" "[I" ∈ zU := zu_t (zu_l1 (List.mem_of_getElem? (i := 59) rfl)) rfl
theorem zu_60 : Cond.fieldLink "HandToHand" 132 "HandToHand$Told" "row" "[I" ∈ zU := zu_t (zu_l1 (List.mem_of_getElem? (i := 60) rfl)) rfl
theorem zu_61 : Cond.fieldLink "HandToHand$Bench" 103 "HandToHand$Told" "row" "[I" ∈ zU := zu_t (zu_l1 (List.mem_of_getElem? (i := 61) rfl)) rfl
theorem zu_62 : Cond.fieldLink "HandToHand$Reader" 137 "HandToHand$Told" "row" "[I" ∈ zU := zu_t (zu_l1 (List.mem_of_getElem? (i := 62) rfl)) rfl
theorem zu_63 : Cond.fieldLink "HandToHand$Told" 15 "HandToHand$Told" "units" "[I" ∈ zU := zu_t (zu_l1 (List.mem_of_getElem? (i := 63) rfl)) rfl
theorem zu_64 : Cond.fieldLink "HandToHand$Reader" 77 "HandToHand$Told" "units" "[I" ∈ zU := zu_t (zu_l1 (List.mem_of_getElem? (i := 64) rfl)) rfl
theorem zu_65 : Cond.fieldLink "HandToHand$Told" 18 "HandToHand$Told" "paces" "[I" ∈ zU := zu_t (zu_l1 (List.mem_of_getElem? (i := 65) rfl)) rfl
theorem zu_66 : Cond.fieldLink "HandToHand" 174 "HandToHand$Told" "paces" "[I" ∈ zU := zu_t (zu_l1 (List.mem_of_getElem? (i := 66) rfl)) rfl
theorem zu_67 : Cond.fieldLink "HandToHand$Reader" 149 "HandToHand$Told" "paces" "[I" ∈ zU := zu_t (zu_l1 (List.mem_of_getElem? (i := 67) rfl)) rfl
theorem zu_68 : Cond.fieldLink "HandToHand$Told" 21 "HandToHand$Told" "ends" "[I" ∈ zU := zu_t (zu_l1 (List.mem_of_getElem? (i := 68) rfl)) rfl
theorem zu_69 : Cond.fieldLink "HandToHand$Parts" 26 "HandToHand$Told" "ends" "[I" ∈ zU := zu_t (zu_l1 (List.mem_of_getElem? (i := 69) rfl)) rfl
theorem zu_70 : Cond.fieldLink "HandToHand" 139 "HandToHand$Told" "ends" "[I" ∈ zU := zu_t (zu_l1 (List.mem_of_getElem? (i := 70) rfl)) rfl
theorem zu_71 : Cond.fieldLink "HandToHand$Reader" 159 "HandToHand$Told" "ends" "[I" ∈ zU := zu_t (zu_l1 (List.mem_of_getElem? (i := 71) rfl)) rfl
theorem zu_95 : Cond.arrayClass .int ∈ zU := zu_t (zu_l1 (List.mem_of_getElem? (i := 95) rfl)) rfl
theorem zu_96 : Cond.classLink "HandToHand" 19 "HandToHand$Reader" ∈ zU := zu_t (zu_l1 (List.mem_of_getElem? (i := 96) rfl)) rfl
theorem zu_97 : Cond.instantiable "HandToHand$Reader" 14 ∈ zU := zu_t (zu_l1 (List.mem_of_getElem? (i := 97) rfl)) rfl
theorem zu_99 : Cond.instanceMethod ⟨"HandToHand$Reader", "<init>", "()V"⟩ ∈ zU := zu_t (zu_l1 (List.mem_of_getElem? (i := 99) rfl)) rfl
theorem zu_100 : Cond.code ⟨"HandToHand$Reader", "<init>", "()V"⟩ prog_7_method_1_code 1 none ∈ zU := zu_t (zu_l1 (List.mem_of_getElem? (i := 100) rfl)) rfl
theorem zu_101 : Cond.methodLink "HandToHand$Reader" 3 ⟨"java/lang/Object", "<init>", "()V"⟩ ∈ zU := zu_t (zu_l1 (List.mem_of_getElem? (i := 101) rfl)) rfl
theorem zu_102 : Cond.classLink "HandToHand$Reader" 9 "HandToHand$Told" ∈ zU := zu_t (zu_l1 (List.mem_of_getElem? (i := 102) rfl)) rfl
theorem zu_104 : Cond.fieldLink "HandToHand$Reader" 12 "HandToHand$Reader" "draft" "LHandToHand$Told;" ∈ zU := zu_t (zu_l1 (List.mem_of_getElem? (i := 104) rfl)) rfl
theorem zu_105 : Cond.fieldLink "HandToHand" 114 "HandToHand$Reader" "draft" "LHandToHand$Told;" ∈ zU := zu_t (zu_l1 (List.mem_of_getElem? (i := 105) rfl)) rfl
theorem zu_106 : Cond.fieldLink "HandToHand$Reader" 29 "HandToHand$Reader" "fault" "I" ∈ zU := zu_t (zu_l1 (List.mem_of_getElem? (i := 106) rfl)) rfl
theorem zu_107 : Cond.fieldLink "HandToHand" 126 "HandToHand$Reader" "fault" "I" ∈ zU := zu_t (zu_l1 (List.mem_of_getElem? (i := 107) rfl)) rfl
theorem zu_108 : Cond.fieldLink "HandToHand$Reader" 32 "HandToHand$Reader" "faultPlace" "I" ∈ zU := zu_t (zu_l1 (List.mem_of_getElem? (i := 108) rfl)) rfl
theorem zu_109 : Cond.fieldLink "HandToHand" 111 "HandToHand$Reader" "faultPlace" "I" ∈ zU := zu_t (zu_l1 (List.mem_of_getElem? (i := 109) rfl)) rfl
theorem zu_110 : Cond.fieldLink "HandToHand$Reader" 26 "HandToHand$Reader" "lines" "I" ∈ zU := zu_t (zu_l1 (List.mem_of_getElem? (i := 110) rfl)) rfl
theorem zu_111 : Cond.fieldLink "HandToHand" 123 "HandToHand$Reader" "lines" "I" ∈ zU := zu_t (zu_l1 (List.mem_of_getElem? (i := 111) rfl)) rfl
theorem zu_112 : Cond.fieldLink "HandToHand$Reader" 18 "HandToHand$Reader" "tape" "[B" ∈ zU := zu_t (zu_l1 (List.mem_of_getElem? (i := 112) rfl)) rfl
theorem zu_113 : Cond.fieldLink "HandToHand" 103 "HandToHand$Reader" "tape" "[B" ∈ zU := zu_t (zu_l1 (List.mem_of_getElem? (i := 113) rfl)) rfl
theorem zu_114 : Cond.fieldLink "HandToHand" 99 "HandToHand$Reader" "length" "I" ∈ zU := zu_t (zu_l1 (List.mem_of_getElem? (i := 114) rfl)) rfl
theorem zu_115 : Cond.fieldLink "HandToHand$Reader" 70 "HandToHand$Reader" "length" "I" ∈ zU := zu_t (zu_l1 (List.mem_of_getElem? (i := 115) rfl)) rfl
theorem zu_116 : Cond.fieldLink "HandToHand$Reader" 22 "HandToHand$Reader" "next" "I" ∈ zU := zu_t (zu_l1 (List.mem_of_getElem? (i := 116) rfl)) rfl
theorem zu_117 : Cond.fieldLink "HandToHand$Reader" 55 "HandToHand$Reader" "kind" "I" ∈ zU := zu_t (zu_l1 (List.mem_of_getElem? (i := 117) rfl)) rfl
theorem zu_118 : Cond.fieldLink "HandToHand$Reader" 94 "HandToHand$Reader" "start" "I" ∈ zU := zu_t (zu_l1 (List.mem_of_getElem? (i := 118) rfl)) rfl
theorem zu_119 : Cond.fieldLink "HandToHand$Reader" 97 "HandToHand$Reader" "value" "I" ∈ zU := zu_t (zu_l1 (List.mem_of_getElem? (i := 119) rfl)) rfl
theorem zu_120 : Cond.fieldLink "HandToHand$Reader" 35 "HandToHand$Reader" "names" "I" ∈ zU := zu_t (zu_l1 (List.mem_of_getElem? (i := 120) rfl)) rfl
theorem zu_121 : Cond.fieldLink "HandToHand$Reader" 38 "HandToHand$Reader" "sorts" "I" ∈ zU := zu_t (zu_l1 (List.mem_of_getElem? (i := 121) rfl)) rfl
theorem zu_122 : Cond.fieldLink "HandToHand$Reader" 41 "HandToHand$Reader" "piecesClosed" "Z" ∈ zU := zu_t (zu_l1 (List.mem_of_getElem? (i := 122) rfl)) rfl
theorem zu_123 : Cond.fieldLink "HandToHand$Reader" 45 "HandToHand$Reader" "handsClosed" "Z" ∈ zU := zu_t (zu_l1 (List.mem_of_getElem? (i := 123) rfl)) rfl
theorem zu_153 : Cond.arrayClass .byte ∈ zU := zu_t (zu_l1 (List.mem_of_getElem? (i := 153) rfl)) rfl
theorem zu_154 : Cond.classLink "HandToHand" 26 "HandToHand$Bench" ∈ zU := zu_t (zu_l1 (List.mem_of_getElem? (i := 154) rfl)) rfl
theorem zu_155 : Cond.instantiable "HandToHand$Bench" 14 ∈ zU := zu_t (zu_l1 (List.mem_of_getElem? (i := 155) rfl)) rfl
theorem zu_156 : Cond.methodLink "HandToHand" 28 ⟨"HandToHand$Bench", "<init>", "(LHandToHand$Told;LHandToHand$Handings;)V"⟩ ∈ zU := zu_t (zu_l1 (List.mem_of_getElem? (i := 156) rfl)) rfl
theorem zu_157 : Cond.instanceMethod ⟨"HandToHand$Bench", "<init>", "(LHandToHand$Told;LHandToHand$Handings;)V"⟩ ∈ zU := zu_t (zu_l1 (List.mem_of_getElem? (i := 157) rfl)) rfl
theorem zu_158 : Cond.code ⟨"HandToHand$Bench", "<init>", "(LHandToHand$Told;LHandToHand$Handings;)V"⟩ prog_2_method_1_code 3 none ∈ zU := zu_t (zu_l1 (List.mem_of_getElem? (i := 158) rfl)) rfl
theorem zu_159 : Cond.methodLink "HandToHand$Bench" 3 ⟨"java/lang/Object", "<init>", "()V"⟩ ∈ zU := zu_t (zu_l1 (List.mem_of_getElem? (i := 159) rfl)) rfl
theorem zu_160 : Cond.fieldLink "HandToHand$Bench" 36 "HandToHand$Bench" "told" "LHandToHand$Told;" ∈ zU := zu_t (zu_l1 (List.mem_of_getElem? (i := 160) rfl)) rfl
theorem zu_161 : Cond.fieldLink "HandToHand$Settling" 39 "HandToHand$Bench" "told" "LHandToHand$Told;" ∈ zU := zu_t (zu_l1 (List.mem_of_getElem? (i := 161) rfl)) rfl
theorem zu_162 : Cond.fieldLink "HandToHand$Bench" 40 "HandToHand$Bench" "log" "LHandToHand$Handings;" ∈ zU := zu_t (zu_l1 (List.mem_of_getElem? (i := 162) rfl)) rfl
theorem zu_163 : Cond.fieldLink "HandToHand$Bench" 44 "HandToHand$Bench" "tick" "I" ∈ zU := zu_t (zu_l1 (List.mem_of_getElem? (i := 163) rfl)) rfl
theorem zu_164 : Cond.fieldLink "HandToHand$Settling" 72 "HandToHand$Bench" "tick" "I" ∈ zU := zu_t (zu_l1 (List.mem_of_getElem? (i := 164) rfl)) rfl
theorem zu_165 : Cond.fieldLink "HandToHand" 194 "HandToHand$Bench" "tick" "I" ∈ zU := zu_t (zu_l1 (List.mem_of_getElem? (i := 165) rfl)) rfl
theorem zu_166 : Cond.fieldLink "HandToHand$Bench" 48 "HandToHand$Bench" "done" "I" ∈ zU := zu_t (zu_l1 (List.mem_of_getElem? (i := 166) rfl)) rfl
theorem zu_167 : Cond.fieldLink "HandToHand$Course" 45 "HandToHand$Bench" "done" "I" ∈ zU := zu_t (zu_l1 (List.mem_of_getElem? (i := 167) rfl)) rfl
theorem zu_168 : Cond.fieldLink "HandToHand$Settling" 54 "HandToHand$Bench" "done" "I" ∈ zU := zu_t (zu_l1 (List.mem_of_getElem? (i := 168) rfl)) rfl
theorem zu_169 : Cond.fieldLink "HandToHand" 177 "HandToHand$Bench" "done" "I" ∈ zU := zu_t (zu_l1 (List.mem_of_getElem? (i := 169) rfl)) rfl
theorem zu_170 : Cond.fieldLink "HandToHand$Bench" 51 "HandToHand$Bench" "handings" "I" ∈ zU := zu_t (zu_l1 (List.mem_of_getElem? (i := 170) rfl)) rfl
theorem zu_171 : Cond.fieldLink "HandToHand" 197 "HandToHand$Bench" "handings" "I" ∈ zU := zu_t (zu_l1 (List.mem_of_getElem? (i := 171) rfl)) rfl
theorem zu_172 : Cond.fieldLink "HandToHand$Bench" 57 "HandToHand$Bench" "place" "I" ∈ zU := zu_t (zu_l1 (List.mem_of_getElem? (i := 172) rfl)) rfl
theorem zu_173 : Cond.fieldLink "HandToHand$Settling" 79 "HandToHand$Bench" "place" "I" ∈ zU := zu_t (zu_l1 (List.mem_of_getElem? (i := 173) rfl)) rfl
theorem zu_174 : Cond.fieldLink "HandToHand" 200 "HandToHand$Bench" "place" "I" ∈ zU := zu_t (zu_l1 (List.mem_of_getElem? (i := 174) rfl)) rfl
theorem zu_175 : Cond.fieldLink "HandToHand$Bench" 9 "HandToHand$Bench" "doing" "[I" ∈ zU := zu_t (zu_l1 (List.mem_of_getElem? (i := 175) rfl)) rfl
theorem zu_176 : Cond.fieldLink "HandToHand" 206 "HandToHand$Bench" "doing" "[I" ∈ zU := zu_t (zu_l1 (List.mem_of_getElem? (i := 176) rfl)) rfl
theorem zu_177 : Cond.fieldLink "HandToHand$Bench" 15 "HandToHand$Bench" "left" "[I" ∈ zU := zu_t (zu_l1 (List.mem_of_getElem? (i := 177) rfl)) rfl
theorem zu_178 : Cond.fieldLink "HandToHand" 209 "HandToHand$Bench" "left" "[I" ∈ zU := zu_t (zu_l1 (List.mem_of_getElem? (i := 178) rfl)) rfl
theorem zu_179 : Cond.fieldLink "HandToHand$Bench" 18 "HandToHand$Bench" "piece" "[I" ∈ zU := zu_t (zu_l1 (List.mem_of_getElem? (i := 179) rfl)) rfl
theorem zu_180 : Cond.fieldLink "HandToHand" 203 "HandToHand$Bench" "piece" "[I" ∈ zU := zu_t (zu_l1 (List.mem_of_getElem? (i := 180) rfl)) rfl
theorem zu_181 : Cond.fieldLink "HandToHand$Bench" 21 "HandToHand$Bench" "unit" "[I" ∈ zU := zu_t (zu_l1 (List.mem_of_getElem? (i := 181) rfl)) rfl
theorem zu_182 : Cond.fieldLink "HandToHand" 212 "HandToHand$Bench" "unit" "[I" ∈ zU := zu_t (zu_l1 (List.mem_of_getElem? (i := 182) rfl)) rfl
theorem zu_183 : Cond.fieldLink "HandToHand$Bench" 24 "HandToHand$Bench" "sort" "[I" ∈ zU := zu_t (zu_l1 (List.mem_of_getElem? (i := 183) rfl)) rfl
theorem zu_184 : Cond.fieldLink "HandToHand" 215 "HandToHand$Bench" "sort" "[I" ∈ zU := zu_t (zu_l1 (List.mem_of_getElem? (i := 184) rfl)) rfl
theorem zu_185 : Cond.fieldLink "HandToHand$Bench" 27 "HandToHand$Bench" "waited" "[I" ∈ zU := zu_t (zu_l1 (List.mem_of_getElem? (i := 185) rfl)) rfl
theorem zu_186 : Cond.fieldLink "HandToHand" 218 "HandToHand$Bench" "waited" "[I" ∈ zU := zu_t (zu_l1 (List.mem_of_getElem? (i := 186) rfl)) rfl
theorem zu_187 : Cond.fieldLink "HandToHand$Bench" 30 "HandToHand$Bench" "learned" "[I" ∈ zU := zu_t (zu_l1 (List.mem_of_getElem? (i := 187) rfl)) rfl
theorem zu_188 : Cond.fieldLink "HandToHand$Settling" 94 "HandToHand$Bench" "learned" "[I" ∈ zU := zu_t (zu_l1 (List.mem_of_getElem? (i := 188) rfl)) rfl
theorem zu_189 : Cond.fieldLink "HandToHand" 221 "HandToHand$Bench" "learned" "[I" ∈ zU := zu_t (zu_l1 (List.mem_of_getElem? (i := 189) rfl)) rfl
theorem zu_190 : Cond.fieldLink "HandToHand$Bench" 33 "HandToHand$Bench" "stood" "[I" ∈ zU := zu_t (zu_l1 (List.mem_of_getElem? (i := 190) rfl)) rfl
theorem zu_221 : Cond.classLink "HandToHand" 43 "HandToHand$Course" ∈ zU := zu_t (zu_l1 (List.mem_of_getElem? (i := 221) rfl)) rfl
theorem zu_222 : Cond.instantiable "HandToHand$Course" 4 ∈ zU := zu_t (zu_l1 (List.mem_of_getElem? (i := 222) rfl)) rfl
theorem zu_223 : Cond.methodLink "HandToHand" 45 ⟨"HandToHand$Course", "<init>", "(LHandToHand$Told;)V"⟩ ∈ zU := zu_t (zu_l1 (List.mem_of_getElem? (i := 223) rfl)) rfl
theorem zu_224 : Cond.instanceMethod ⟨"HandToHand$Course", "<init>", "(LHandToHand$Told;)V"⟩ ∈ zU := zu_t (zu_l1 (List.mem_of_getElem? (i := 224) rfl)) rfl
theorem zu_225 : Cond.code ⟨"HandToHand$Course", "<init>", "(LHandToHand$Told;)V"⟩ prog_3_method_1_code 2 none ∈ zU := zu_t (zu_l1 (List.mem_of_getElem? (i := 225) rfl)) rfl
theorem zu_226 : Cond.methodLink "HandToHand$Course" 3 ⟨"java/lang/Object", "<init>", "()V"⟩ ∈ zU := zu_t (zu_l1 (List.mem_of_getElem? (i := 226) rfl)) rfl
theorem zu_227 : Cond.classLink "HandToHand$Course" 9 "HandToHand$Handings" ∈ zU := zu_t (zu_l1 (List.mem_of_getElem? (i := 227) rfl)) rfl
theorem zu_228 : Cond.instantiable "HandToHand$Handings" 2 ∈ zU := zu_t (zu_l1 (List.mem_of_getElem? (i := 228) rfl)) rfl
theorem zu_230 : Cond.instanceMethod ⟨"HandToHand$Handings", "<init>", "()V"⟩ ∈ zU := zu_t (zu_l1 (List.mem_of_getElem? (i := 230) rfl)) rfl
theorem zu_231 : Cond.code ⟨"HandToHand$Handings", "<init>", "()V"⟩ prog_4_method_1_code 1 none ∈ zU := zu_t (zu_l1 (List.mem_of_getElem? (i := 231) rfl)) rfl
theorem zu_232 : Cond.methodLink "HandToHand$Handings" 3 ⟨"java/lang/Object", "<init>", "()V"⟩ ∈ zU := zu_t (zu_l1 (List.mem_of_getElem? (i := 232) rfl)) rfl
theorem zu_233 : Cond.fieldLink "HandToHand$Handings" 15 "HandToHand$Handings" "size" "I" ∈ zU := zu_t (zu_l1 (List.mem_of_getElem? (i := 233) rfl)) rfl
theorem zu_234 : Cond.fieldLink "HandToHand$Course" 35 "HandToHand$Handings" "size" "I" ∈ zU := zu_t (zu_l1 (List.mem_of_getElem? (i := 234) rfl)) rfl
theorem zu_235 : Cond.fieldLink "HandToHand" 253 "HandToHand$Handings" "size" "I" ∈ zU := zu_t (zu_l1 (List.mem_of_getElem? (i := 235) rfl)) rfl
theorem zu_236 : Cond.fieldLink "HandToHand$Handings" 11 "HandToHand$Handings" "values" "[I" ∈ zU := zu_t (zu_l1 (List.mem_of_getElem? (i := 236) rfl)) rfl
theorem zu_242 : Cond.arrayClass .boolean ∈ zU := zu_t (zu_l2 (List.mem_of_getElem? (i := 2) rfl)) rfl
theorem zu_243 : Cond.classLink "HandToHand$Course" 18 "HandToHand$Bench" ∈ zU := zu_t (zu_l2 (List.mem_of_getElem? (i := 3) rfl)) rfl
theorem zu_244 : Cond.methodLink "HandToHand$Course" 20 ⟨"HandToHand$Bench", "<init>", "(LHandToHand$Told;LHandToHand$Handings;)V"⟩ ∈ zU := zu_t (zu_l2 (List.mem_of_getElem? (i := 4) rfl)) rfl
theorem zu_245 : Cond.fieldLink "HandToHand$Course" 12 "HandToHand$Course" "handings" "LHandToHand$Handings;" ∈ zU := zu_t (zu_l2 (List.mem_of_getElem? (i := 5) rfl)) rfl
theorem zu_246 : Cond.fieldLink "HandToHand" 250 "HandToHand$Course" "handings" "LHandToHand$Handings;" ∈ zU := zu_t (zu_l2 (List.mem_of_getElem? (i := 6) rfl)) rfl
theorem zu_247 : Cond.fieldLink "HandToHand$Course" 23 "HandToHand$Course" "bench" "LHandToHand$Bench;" ∈ zU := zu_t (zu_l2 (List.mem_of_getElem? (i := 7) rfl)) rfl
theorem zu_248 : Cond.fieldLink "HandToHand" 237 "HandToHand$Course" "bench" "LHandToHand$Bench;" ∈ zU := zu_t (zu_l2 (List.mem_of_getElem? (i := 8) rfl)) rfl
theorem zu_249 : Cond.fieldLink "HandToHand$Course" 27 "HandToHand$Course" "coats" "I" ∈ zU := zu_t (zu_l2 (List.mem_of_getElem? (i := 9) rfl)) rfl
theorem zu_250 : Cond.fieldLink "HandToHand" 371 "HandToHand$Course" "coats" "I" ∈ zU := zu_t (zu_l2 (List.mem_of_getElem? (i := 10) rfl)) rfl
theorem zu_251 : Cond.fieldLink "HandToHand$Course" 31 "HandToHand$Course" "stuck" "Z" ∈ zU := zu_t (zu_l2 (List.mem_of_getElem? (i := 11) rfl)) rfl
theorem zu_252 : Cond.fieldLink "HandToHand" 238 "HandToHand$Course" "stuck" "Z" ∈ zU := zu_t (zu_l2 (List.mem_of_getElem? (i := 12) rfl)) rfl
theorem zu_262 : Cond.classLink "HandToHand" 52 "HandToHand$Settling" ∈ zU := zu_t (zu_l2 (List.mem_of_getElem? (i := 22) rfl)) rfl
theorem zu_263 : Cond.instantiable "HandToHand$Settling" 5 ∈ zU := zu_t (zu_l2 (List.mem_of_getElem? (i := 23) rfl)) rfl
theorem zu_264 : Cond.methodLink "HandToHand" 54 ⟨"HandToHand$Settling", "<init>", "(LHandToHand$Told;)V"⟩ ∈ zU := zu_t (zu_l2 (List.mem_of_getElem? (i := 24) rfl)) rfl
theorem zu_265 : Cond.instanceMethod ⟨"HandToHand$Settling", "<init>", "(LHandToHand$Told;)V"⟩ ∈ zU := zu_t (zu_l2 (List.mem_of_getElem? (i := 25) rfl)) rfl
theorem zu_266 : Cond.code ⟨"HandToHand$Settling", "<init>", "(LHandToHand$Told;)V"⟩ prog_9_method_1_code 2 none ∈ zU := zu_t (zu_l2 (List.mem_of_getElem? (i := 26) rfl)) rfl
theorem zu_267 : Cond.methodLink "HandToHand$Settling" 3 ⟨"java/lang/Object", "<init>", "()V"⟩ ∈ zU := zu_t (zu_l2 (List.mem_of_getElem? (i := 27) rfl)) rfl
theorem zu_268 : Cond.classLink "HandToHand$Settling" 21 "HandToHand$Bench" ∈ zU := zu_t (zu_l2 (List.mem_of_getElem? (i := 28) rfl)) rfl
theorem zu_269 : Cond.methodLink "HandToHand$Settling" 23 ⟨"HandToHand$Bench", "<init>", "(LHandToHand$Told;LHandToHand$Handings;)V"⟩ ∈ zU := zu_t (zu_l2 (List.mem_of_getElem? (i := 29) rfl)) rfl
theorem zu_270 : Cond.fieldLink "HandToHand$Settling" 26 "HandToHand$Settling" "bench" "LHandToHand$Bench;" ∈ zU := zu_t (zu_l2 (List.mem_of_getElem? (i := 30) rfl)) rfl
theorem zu_271 : Cond.fieldLink "HandToHand$Settling" 35 "HandToHand$Settling" "records" "I" ∈ zU := zu_t (zu_l2 (List.mem_of_getElem? (i := 31) rfl)) rfl
theorem zu_272 : Cond.fieldLink "HandToHand$Settling" 11 "HandToHand$Settling" "rows" "[I" ∈ zU := zu_t (zu_l2 (List.mem_of_getElem? (i := 32) rfl)) rfl
theorem zu_273 : Cond.fieldLink "HandToHand$Settling" 15 "HandToHand$Settling" "dones" "[I" ∈ zU := zu_t (zu_l2 (List.mem_of_getElem? (i := 33) rfl)) rfl
theorem zu_274 : Cond.fieldLink "HandToHand$Settling" 18 "HandToHand$Settling" "ticks" "[I" ∈ zU := zu_t (zu_l2 (List.mem_of_getElem? (i := 34) rfl)) rfl
theorem zu_286 : Cond.classLink "HandToHand" 59 "HandToHand$Ring" ∈ zU := zu_t (zu_l2 (List.mem_of_getElem? (i := 46) rfl)) rfl
theorem zu_287 : Cond.instantiable "HandToHand$Ring" 8 ∈ zU := zu_t (zu_l2 (List.mem_of_getElem? (i := 47) rfl)) rfl
theorem zu_289 : Cond.instanceMethod ⟨"HandToHand$Ring", "<init>", "()V"⟩ ∈ zU := zu_t (zu_l2 (List.mem_of_getElem? (i := 49) rfl)) rfl
theorem zu_290 : Cond.code ⟨"HandToHand$Ring", "<init>", "()V"⟩ prog_8_method_1_code 1 none ∈ zU := zu_t (zu_l2 (List.mem_of_getElem? (i := 50) rfl)) rfl
theorem zu_291 : Cond.methodLink "HandToHand$Ring" 1 ⟨"java/lang/Object", "<init>", "()V"⟩ ∈ zU := zu_t (zu_l2 (List.mem_of_getElem? (i := 51) rfl)) rfl
theorem zu_292 : Cond.fieldLink "HandToHand$Ring" 7 "HandToHand$Ring" "known" "Z" ∈ zU := zu_t (zu_l2 (List.mem_of_getElem? (i := 52) rfl)) rfl
theorem zu_293 : Cond.fieldLink "HandToHand" 372 "HandToHand$Ring" "known" "Z" ∈ zU := zu_t (zu_l2 (List.mem_of_getElem? (i := 53) rfl)) rfl
theorem zu_294 : Cond.fieldLink "HandToHand$Ring" 13 "HandToHand$Ring" "found" "Z" ∈ zU := zu_t (zu_l2 (List.mem_of_getElem? (i := 54) rfl)) rfl
theorem zu_295 : Cond.fieldLink "HandToHand$Settling" 57 "HandToHand$Ring" "found" "Z" ∈ zU := zu_t (zu_l2 (List.mem_of_getElem? (i := 55) rfl)) rfl
theorem zu_296 : Cond.fieldLink "HandToHand" 262 "HandToHand$Ring" "found" "Z" ∈ zU := zu_t (zu_l2 (List.mem_of_getElem? (i := 56) rfl)) rfl
theorem zu_297 : Cond.fieldLink "HandToHand$Ring" 23 "HandToHand$Ring" "ahead" "I" ∈ zU := zu_t (zu_l2 (List.mem_of_getElem? (i := 57) rfl)) rfl
theorem zu_298 : Cond.fieldLink "HandToHand" 265 "HandToHand$Ring" "ahead" "I" ∈ zU := zu_t (zu_l2 (List.mem_of_getElem? (i := 58) rfl)) rfl
theorem zu_299 : Cond.fieldLink "HandToHand$Ring" 29 "HandToHand$Ring" "coats" "I" ∈ zU := zu_t (zu_l2 (List.mem_of_getElem? (i := 59) rfl)) rfl
theorem zu_300 : Cond.fieldLink "HandToHand" 268 "HandToHand$Ring" "coats" "I" ∈ zU := zu_t (zu_l2 (List.mem_of_getElem? (i := 60) rfl)) rfl
theorem zu_301 : Cond.fieldLink "HandToHand$Ring" 32 "HandToHand$Ring" "ticks" "I" ∈ zU := zu_t (zu_l2 (List.mem_of_getElem? (i := 61) rfl)) rfl
theorem zu_302 : Cond.fieldLink "HandToHand$Handings" 28 "HandToHand$Ring" "ticks" "I" ∈ zU := zu_t (zu_l2 (List.mem_of_getElem? (i := 62) rfl)) rfl
theorem zu_303 : Cond.fieldLink "HandToHand" 271 "HandToHand$Ring" "ticks" "I" ∈ zU := zu_t (zu_l2 (List.mem_of_getElem? (i := 63) rfl)) rfl
theorem zu_304 : Cond.fieldLink "HandToHand$Ring" 26 "HandToHand$Ring" "from" "I" ∈ zU := zu_t (zu_l2 (List.mem_of_getElem? (i := 64) rfl)) rfl
theorem zu_305 : Cond.fieldLink "HandToHand$Handings" 23 "HandToHand$Ring" "from" "I" ∈ zU := zu_t (zu_l2 (List.mem_of_getElem? (i := 65) rfl)) rfl
theorem zu_306 : Cond.fieldLink "HandToHand$Parts" 15 "HandToHand$Ring" "top" "I" ∈ zU := zu_t (zu_l2 (List.mem_of_getElem? (i := 66) rfl)) rfl
theorem zu_307 : Cond.fieldLink "HandToHand$Ring" 16 "HandToHand$Ring" "top" "I" ∈ zU := zu_t (zu_l2 (List.mem_of_getElem? (i := 67) rfl)) rfl
theorem zu_308 : Cond.fieldLink "HandToHand" 281 "HandToHand$Ring" "top" "I" ∈ zU := zu_t (zu_l2 (List.mem_of_getElem? (i := 68) rfl)) rfl
theorem zu_309 : Cond.fieldLink "HandToHand$Parts" 22 "HandToHand$Ring" "bottom" "I" ∈ zU := zu_t (zu_l2 (List.mem_of_getElem? (i := 69) rfl)) rfl
theorem zu_310 : Cond.fieldLink "HandToHand$Ring" 20 "HandToHand$Ring" "bottom" "I" ∈ zU := zu_t (zu_l2 (List.mem_of_getElem? (i := 70) rfl)) rfl
theorem zu_311 : Cond.fieldLink "HandToHand" 284 "HandToHand$Ring" "bottom" "I" ∈ zU := zu_t (zu_l2 (List.mem_of_getElem? (i := 71) rfl)) rfl
theorem zu_329 : Cond.classLink "HandToHand" 69 "HandToHand$Orders" ∈ zU := zu_t (zu_l2 (List.mem_of_getElem? (i := 89) rfl)) rfl
theorem zu_330 : Cond.instantiable "HandToHand$Orders" 3 ∈ zU := zu_t (zu_l2 (List.mem_of_getElem? (i := 90) rfl)) rfl
theorem zu_332 : Cond.instanceMethod ⟨"HandToHand$Orders", "<init>", "()V"⟩ ∈ zU := zu_t (zu_l2 (List.mem_of_getElem? (i := 92) rfl)) rfl
theorem zu_333 : Cond.code ⟨"HandToHand$Orders", "<init>", "()V"⟩ prog_5_method_1_code 1 none ∈ zU := zu_t (zu_l2 (List.mem_of_getElem? (i := 93) rfl)) rfl
theorem zu_334 : Cond.methodLink "HandToHand$Orders" 3 ⟨"java/lang/Object", "<init>", "()V"⟩ ∈ zU := zu_t (zu_l2 (List.mem_of_getElem? (i := 94) rfl)) rfl
theorem zu_335 : Cond.fieldLink "HandToHand$Orders" 9 "HandToHand$Orders" "tops" "[I" ∈ zU := zu_t (zu_l2 (List.mem_of_getElem? (i := 95) rfl)) rfl
theorem zu_336 : Cond.fieldLink "HandToHand" 303 "HandToHand$Orders" "tops" "[I" ∈ zU := zu_t (zu_l2 (List.mem_of_getElem? (i := 96) rfl)) rfl
theorem zu_337 : Cond.fieldLink "HandToHand$Orders" 15 "HandToHand$Orders" "bottoms" "[I" ∈ zU := zu_t (zu_l2 (List.mem_of_getElem? (i := 97) rfl)) rfl
theorem zu_338 : Cond.fieldLink "HandToHand" 306 "HandToHand$Orders" "bottoms" "[I" ∈ zU := zu_t (zu_l2 (List.mem_of_getElem? (i := 98) rfl)) rfl
theorem zu_339 : Cond.fieldLink "HandToHand$Orders" 18 "HandToHand$Orders" "standing" "[I" ∈ zU := zu_t (zu_l2 (List.mem_of_getElem? (i := 99) rfl)) rfl
theorem zu_340 : Cond.fieldLink "HandToHand" 321 "HandToHand$Orders" "standing" "[I" ∈ zU := zu_t (zu_l2 (List.mem_of_getElem? (i := 100) rfl)) rfl
theorem zu_348 : Cond.classLink "HandToHand" 76 "HandToHand$Parts" ∈ zU := zu_t (zu_l2 (List.mem_of_getElem? (i := 108) rfl)) rfl
theorem zu_349 : Cond.instantiable "HandToHand$Parts" 4 ∈ zU := zu_t (zu_l2 (List.mem_of_getElem? (i := 109) rfl)) rfl
theorem zu_351 : Cond.instanceMethod ⟨"HandToHand$Parts", "<init>", "()V"⟩ ∈ zU := zu_t (zu_l2 (List.mem_of_getElem? (i := 111) rfl)) rfl
theorem zu_352 : Cond.code ⟨"HandToHand$Parts", "<init>", "()V"⟩ prog_6_method_1_code 1 none ∈ zU := zu_t (zu_l2 (List.mem_of_getElem? (i := 112) rfl)) rfl
theorem zu_353 : Cond.methodLink "HandToHand$Parts" 3 ⟨"java/lang/Object", "<init>", "()V"⟩ ∈ zU := zu_t (zu_l2 (List.mem_of_getElem? (i := 113) rfl)) rfl
theorem zu_354 : Cond.fieldLink "HandToHand" 375 "HandToHand$Parts" "known" "Z" ∈ zU := zu_t (zu_l2 (List.mem_of_getElem? (i := 114) rfl)) rfl
theorem zu_355 : Cond.fieldLink "HandToHand$Parts" 21 "HandToHand$Parts" "top" "I" ∈ zU := zu_t (zu_l2 (List.mem_of_getElem? (i := 115) rfl)) rfl
theorem zu_356 : Cond.fieldLink "HandToHand" 328 "HandToHand$Parts" "top" "I" ∈ zU := zu_t (zu_l2 (List.mem_of_getElem? (i := 116) rfl)) rfl
theorem zu_357 : Cond.fieldLink "HandToHand$Parts" 25 "HandToHand$Parts" "bottom" "I" ∈ zU := zu_t (zu_l2 (List.mem_of_getElem? (i := 117) rfl)) rfl
theorem zu_358 : Cond.fieldLink "HandToHand" 329 "HandToHand$Parts" "bottom" "I" ∈ zU := zu_t (zu_l2 (List.mem_of_getElem? (i := 118) rfl)) rfl
theorem zu_359 : Cond.fieldLink "HandToHand$Parts" 9 "HandToHand$Parts" "ends" "[I" ∈ zU := zu_t (zu_l2 (List.mem_of_getElem? (i := 119) rfl)) rfl
theorem zu_360 : Cond.fieldLink "HandToHand" 327 "HandToHand$Parts" "ends" "[I" ∈ zU := zu_t (zu_l2 (List.mem_of_getElem? (i := 120) rfl)) rfl
theorem zu_370 : Cond.classLink "HandToHand" 83 "HandToHand$Sheet" ∈ zU := zu_t (zu_l2 (List.mem_of_getElem? (i := 130) rfl)) rfl
theorem zu_372 : Cond.methodLink "HandToHand" 89 ⟨"HandToHand$Told", "tellAsAtFirst", "()V"⟩ ∈ zU := zu_t (zu_l2 (List.mem_of_getElem? (i := 132) rfl)) rfl
theorem zu_373 : Cond.instanceMethod ⟨"HandToHand$Told", "tellAsAtFirst", "()V"⟩ ∈ zU := zu_t (zu_l2 (List.mem_of_getElem? (i := 133) rfl)) rfl
theorem zu_374 : Cond.selects "HandToHand$Told" ⟨"HandToHand$Told", "tellAsAtFirst", "()V"⟩ ⟨"HandToHand$Told", "tellAsAtFirst", "()V"⟩ ∈ zU := zu_t (zu_l2 (List.mem_of_getElem? (i := 134) rfl)) rfl
theorem zu_375 : Cond.code ⟨"HandToHand$Told", "tellAsAtFirst", "()V"⟩ prog_11_method_3_code 3 none ∈ zU := zu_t (zu_l2 (List.mem_of_getElem? (i := 135) rfl)) rfl
theorem zu_376 : Cond.methodLink "HandToHand$Told" 46 ⟨"HandToHand$Told", "clear", "()V"⟩ ∈ zU := zu_t (zu_l2 (List.mem_of_getElem? (i := 136) rfl)) rfl
theorem zu_377 : Cond.instanceMethod ⟨"HandToHand$Told", "clear", "()V"⟩ ∈ zU := zu_t (zu_l2 (List.mem_of_getElem? (i := 137) rfl)) rfl
theorem zu_378 : Cond.selects "HandToHand$Told" ⟨"HandToHand$Told", "clear", "()V"⟩ ⟨"HandToHand$Told", "clear", "()V"⟩ ∈ zU := zu_t (zu_l2 (List.mem_of_getElem? (i := 138) rfl)) rfl
theorem zu_379 : Cond.code ⟨"HandToHand$Told", "clear", "()V"⟩ prog_11_method_2_code 1 none ∈ zU := zu_t (zu_l2 (List.mem_of_getElem? (i := 139) rfl)) rfl
theorem zu_380 : Cond.methodLink "HandToHand$Told" 49 ⟨"HandToHand$Told", "fillEnds", "()V"⟩ ∈ zU := zu_t (zu_l2 (List.mem_of_getElem? (i := 140) rfl)) rfl
theorem zu_381 : Cond.instanceMethod ⟨"HandToHand$Told", "fillEnds", "()V"⟩ ∈ zU := zu_t (zu_l2 (List.mem_of_getElem? (i := 141) rfl)) rfl
theorem zu_382 : Cond.selects "HandToHand$Told" ⟨"HandToHand$Told", "fillEnds", "()V"⟩ ⟨"HandToHand$Told", "fillEnds", "()V"⟩ ∈ zU := zu_t (zu_l2 (List.mem_of_getElem? (i := 142) rfl)) rfl
theorem zu_383 : Cond.code ⟨"HandToHand$Told", "fillEnds", "()V"⟩ prog_11_method_6_code 2 none ∈ zU := zu_t (zu_l2 (List.mem_of_getElem? (i := 143) rfl)) rfl
theorem zu_384 : Cond.instantiable "HandToHand$Sheet" 3 ∈ zU := zu_t (zu_l2 (List.mem_of_getElem? (i := 144) rfl)) rfl
theorem zu_386 : Cond.instanceMethod ⟨"HandToHand$Sheet", "<init>", "()V"⟩ ∈ zU := zu_t (zu_l2 (List.mem_of_getElem? (i := 146) rfl)) rfl
theorem zu_387 : Cond.code ⟨"HandToHand$Sheet", "<init>", "()V"⟩ prog_10_method_1_code 1 none ∈ zU := zu_t (zu_l2 (List.mem_of_getElem? (i := 147) rfl)) rfl
theorem zu_388 : Cond.methodLink "HandToHand$Sheet" 3 ⟨"java/lang/Object", "<init>", "()V"⟩ ∈ zU := zu_t (zu_l2 (List.mem_of_getElem? (i := 148) rfl)) rfl
theorem zu_389 : Cond.fieldLink "HandToHand$Sheet" 11 "HandToHand$Sheet" "lane" "I" ∈ zU := zu_t (zu_l2 (List.mem_of_getElem? (i := 149) rfl)) rfl
theorem zu_390 : Cond.fieldLink "HandToHand" 346 "HandToHand$Sheet" "lane" "I" ∈ zU := zu_t (zu_l2 (List.mem_of_getElem? (i := 150) rfl)) rfl
theorem zu_391 : Cond.fieldLink "HandToHand$Sheet" 19 "HandToHand$Sheet" "size" "I" ∈ zU := zu_t (zu_l2 (List.mem_of_getElem? (i := 151) rfl)) rfl
theorem zu_392 : Cond.fieldLink "HandToHand" 349 "HandToHand$Sheet" "size" "I" ∈ zU := zu_t (zu_l2 (List.mem_of_getElem? (i := 152) rfl)) rfl
theorem zu_393 : Cond.fieldLink "HandToHand$Sheet" 15 "HandToHand$Sheet" "cells" "[I" ∈ zU := zu_t (zu_l2 (List.mem_of_getElem? (i := 153) rfl)) rfl
theorem zu_394 : Cond.fieldLink "HandToHand" 389 "HandToHand$Sheet" "cells" "[I" ∈ zU := zu_t (zu_l2 (List.mem_of_getElem? (i := 154) rfl)) rfl
theorem zu_402 : Cond.methodLink "HandToHand" 93 ⟨"HandToHand$Bench", "clear", "()V"⟩ ∈ zU := zu_t (zu_l2 (List.mem_of_getElem? (i := 162) rfl)) rfl
theorem zu_403 : Cond.instanceMethod ⟨"HandToHand$Bench", "clear", "()V"⟩ ∈ zU := zu_t (zu_l2 (List.mem_of_getElem? (i := 163) rfl)) rfl
theorem zu_404 : Cond.selects "HandToHand$Bench" ⟨"HandToHand$Bench", "clear", "()V"⟩ ⟨"HandToHand$Bench", "clear", "()V"⟩ ∈ zU := zu_t (zu_l2 (List.mem_of_getElem? (i := 164) rfl)) rfl
theorem zu_405 : Cond.code ⟨"HandToHand$Bench", "clear", "()V"⟩ prog_2_method_2_code 2 none ∈ zU := zu_t (zu_l2 (List.mem_of_getElem? (i := 165) rfl)) rfl
theorem zu_406 : Cond.methodLink "HandToHand$Bench" 54 ⟨"HandToHand$Bench", "makeReady", "()V"⟩ ∈ zU := zu_t (zu_l2 (List.mem_of_getElem? (i := 166) rfl)) rfl
theorem zu_407 : Cond.instanceMethod ⟨"HandToHand$Bench", "makeReady", "()V"⟩ ∈ zU := zu_t (zu_l2 (List.mem_of_getElem? (i := 167) rfl)) rfl
theorem zu_408 : Cond.selects "HandToHand$Bench" ⟨"HandToHand$Bench", "makeReady", "()V"⟩ ⟨"HandToHand$Bench", "makeReady", "()V"⟩ ∈ zU := zu_t (zu_l2 (List.mem_of_getElem? (i := 168) rfl)) rfl
theorem zu_409 : Cond.code ⟨"HandToHand$Bench", "makeReady", "()V"⟩ prog_2_method_3_code 2 none ∈ zU := zu_t (zu_l2 (List.mem_of_getElem? (i := 169) rfl)) rfl
theorem zu_410 : Cond.methodLink "HandToHand" 96 ⟨"HandToHand$Bench", "doAll", "()V"⟩ ∈ zU := zu_t (zu_l2 (List.mem_of_getElem? (i := 170) rfl)) rfl
theorem zu_411 : Cond.instanceMethod ⟨"HandToHand$Bench", "doAll", "()V"⟩ ∈ zU := zu_t (zu_l2 (List.mem_of_getElem? (i := 171) rfl)) rfl
theorem zu_412 : Cond.selects "HandToHand$Bench" ⟨"HandToHand$Bench", "doAll", "()V"⟩ ⟨"HandToHand$Bench", "doAll", "()V"⟩ ∈ zU := zu_t (zu_l2 (List.mem_of_getElem? (i := 172) rfl)) rfl
theorem zu_413 : Cond.code ⟨"HandToHand$Bench", "doAll", "()V"⟩ prog_2_method_5_code 4 none ∈ zU := zu_t (zu_l2 (List.mem_of_getElem? (i := 173) rfl)) rfl
theorem zu_414 : Cond.constant "HandToHand$Bench" 66 (1000000 : Int32) ∈ zU := zu_t (zu_l2 (List.mem_of_getElem? (i := 174) rfl)) rfl
theorem zu_415 : Cond.methodLink "HandToHand$Bench" 72 ⟨"HandToHand$Bench", "act", "(I)Z"⟩ ∈ zU := zu_t (zu_l2 (List.mem_of_getElem? (i := 175) rfl)) rfl
theorem zu_417 : Cond.instanceMethod ⟨"HandToHand$Bench", "act", "(I)Z"⟩ ∈ zU := zu_t (zu_l2 (List.mem_of_getElem? (i := 177) rfl)) rfl
theorem zu_418 : Cond.code ⟨"HandToHand$Bench", "act", "(I)Z"⟩ prog_2_method_6_code 2 (Option.some .boolean) ∈ zU := zu_t (zu_l2 (List.mem_of_getElem? (i := 178) rfl)) rfl
theorem zu_419 : Cond.methodLink "HandToHand$Bench" 76 ⟨"HandToHand$Bench", "finishUnit", "(I)Z"⟩ ∈ zU := zu_t (zu_l2 (List.mem_of_getElem? (i := 179) rfl)) rfl
theorem zu_421 : Cond.instanceMethod ⟨"HandToHand$Bench", "finishUnit", "(I)Z"⟩ ∈ zU := zu_t (zu_l2 (List.mem_of_getElem? (i := 181) rfl)) rfl
theorem zu_422 : Cond.code ⟨"HandToHand$Bench", "finishUnit", "(I)Z"⟩ prog_2_method_7_code 3 (Option.some .boolean) ∈ zU := zu_t (zu_l2 (List.mem_of_getElem? (i := 182) rfl)) rfl
theorem zu_423 : Cond.methodLink "HandToHand$Bench" 89 ⟨"HandToHand$Told", "unitsOf", "(II)I"⟩ ∈ zU := zu_t (zu_l2 (List.mem_of_getElem? (i := 183) rfl)) rfl
theorem zu_424 : Cond.instanceMethod ⟨"HandToHand$Told", "unitsOf", "(II)I"⟩ ∈ zU := zu_t (zu_l2 (List.mem_of_getElem? (i := 184) rfl)) rfl
theorem zu_425 : Cond.selects "HandToHand$Told" ⟨"HandToHand$Told", "unitsOf", "(II)I"⟩ ⟨"HandToHand$Told", "unitsOf", "(II)I"⟩ ∈ zU := zu_t (zu_l2 (List.mem_of_getElem? (i := 185) rfl)) rfl
theorem zu_426 : Cond.code ⟨"HandToHand$Told", "unitsOf", "(II)I"⟩ prog_11_method_9_code 3 (Option.some .int) ∈ zU := zu_t (zu_l2 (List.mem_of_getElem? (i := 186) rfl)) rfl
theorem zu_427 : Cond.methodLink "HandToHand$Bench" 93 ⟨"HandToHand$Told", "pieceFrom", "(II)I"⟩ ∈ zU := zu_t (zu_l2 (List.mem_of_getElem? (i := 187) rfl)) rfl
theorem zu_428 : Cond.instanceMethod ⟨"HandToHand$Told", "pieceFrom", "(II)I"⟩ ∈ zU := zu_t (zu_l2 (List.mem_of_getElem? (i := 188) rfl)) rfl
theorem zu_429 : Cond.selects "HandToHand$Told" ⟨"HandToHand$Told", "pieceFrom", "(II)I"⟩ ⟨"HandToHand$Told", "pieceFrom", "(II)I"⟩ ∈ zU := zu_t (zu_l2 (List.mem_of_getElem? (i := 189) rfl)) rfl
theorem zu_430 : Cond.code ⟨"HandToHand$Told", "pieceFrom", "(II)I"⟩ prog_11_method_11_code 4 (Option.some .int) ∈ zU := zu_t (zu_l2 (List.mem_of_getElem? (i := 190) rfl)) rfl
theorem zu_431 : Cond.methodLink "HandToHand$Bench" 99 ⟨"HandToHand$Bench", "goBack", "(II)V"⟩ ∈ zU := zu_t (zu_l2 (List.mem_of_getElem? (i := 191) rfl)) rfl
theorem zu_433 : Cond.instanceMethod ⟨"HandToHand$Bench", "goBack", "(II)V"⟩ ∈ zU := zu_t (zu_l2 (List.mem_of_getElem? (i := 193) rfl)) rfl
theorem zu_434 : Cond.code ⟨"HandToHand$Bench", "goBack", "(II)V"⟩ prog_2_method_10_code 4 none ∈ zU := zu_t (zu_l2 (List.mem_of_getElem? (i := 194) rfl)) rfl
theorem zu_435 : Cond.methodLink "HandToHand$Bench" 79 ⟨"HandToHand$Bench", "takeNewCoat", "()Z"⟩ ∈ zU := zu_t (zu_l2 (List.mem_of_getElem? (i := 195) rfl)) rfl
theorem zu_437 : Cond.instanceMethod ⟨"HandToHand$Bench", "takeNewCoat", "()Z"⟩ ∈ zU := zu_t (zu_l2 (List.mem_of_getElem? (i := 197) rfl)) rfl
theorem zu_438 : Cond.code ⟨"HandToHand$Bench", "takeNewCoat", "()Z"⟩ prog_2_method_8_code 3 (Option.some .boolean) ∈ zU := zu_t (zu_l2 (List.mem_of_getElem? (i := 198) rfl)) rfl
theorem zu_439 : Cond.methodLink "HandToHand$Bench" 83 ⟨"HandToHand$Bench", "takeOver", "(I)Z"⟩ ∈ zU := zu_t (zu_l2 (List.mem_of_getElem? (i := 199) rfl)) rfl
theorem zu_441 : Cond.instanceMethod ⟨"HandToHand$Bench", "takeOver", "(I)Z"⟩ ∈ zU := zu_t (zu_l2 (List.mem_of_getElem? (i := 201) rfl)) rfl
theorem zu_442 : Cond.code ⟨"HandToHand$Bench", "takeOver", "(I)Z"⟩ prog_2_method_9_code 3 (Option.some .boolean) ∈ zU := zu_t (zu_l2 (List.mem_of_getElem? (i := 202) rfl)) rfl
theorem zu_443 : Cond.methodLink "HandToHand$Bench" 109 ⟨"HandToHand$Told", "mayBeLeft", "(III)Z"⟩ ∈ zU := zu_t (zu_l2 (List.mem_of_getElem? (i := 203) rfl)) rfl
theorem zu_444 : Cond.instanceMethod ⟨"HandToHand$Told", "mayBeLeft", "(III)Z"⟩ ∈ zU := zu_t (zu_l2 (List.mem_of_getElem? (i := 204) rfl)) rfl
theorem zu_445 : Cond.selects "HandToHand$Told" ⟨"HandToHand$Told", "mayBeLeft", "(III)Z"⟩ ⟨"HandToHand$Told", "mayBeLeft", "(III)Z"⟩ ∈ zU := zu_t (zu_l2 (List.mem_of_getElem? (i := 205) rfl)) rfl
theorem zu_446 : Cond.code ⟨"HandToHand$Told", "mayBeLeft", "(III)Z"⟩ prog_11_method_13_code 4 (Option.some .boolean) ∈ zU := zu_t (zu_l2 (List.mem_of_getElem? (i := 206) rfl)) rfl
theorem zu_447 : Cond.methodLink "HandToHand$Bench" 113 ⟨"HandToHand$Handings", "note", "(IIIII)V"⟩ ∈ zU := zu_t (zu_l2 (List.mem_of_getElem? (i := 207) rfl)) rfl
theorem zu_448 : Cond.instanceMethod ⟨"HandToHand$Handings", "note", "(IIIII)V"⟩ ∈ zU := zu_t (zu_l2 (List.mem_of_getElem? (i := 208) rfl)) rfl
theorem zu_449 : Cond.selects "HandToHand$Handings" ⟨"HandToHand$Handings", "note", "(IIIII)V"⟩ ⟨"HandToHand$Handings", "note", "(IIIII)V"⟩ ∈ zU := zu_t (zu_l2 (List.mem_of_getElem? (i := 209) rfl)) rfl
theorem zu_450 : Cond.code ⟨"HandToHand$Handings", "note", "(IIIII)V"⟩ prog_4_method_2_code 7 none ∈ zU := zu_t (zu_l2 (List.mem_of_getElem? (i := 210) rfl)) rfl
theorem zu_451 : Cond.methodLink "HandToHand$Bench" 86 ⟨"HandToHand$Bench", "startUnit", "(I)Z"⟩ ∈ zU := zu_t (zu_l2 (List.mem_of_getElem? (i := 211) rfl)) rfl
theorem zu_453 : Cond.instanceMethod ⟨"HandToHand$Bench", "startUnit", "(I)Z"⟩ ∈ zU := zu_t (zu_l2 (List.mem_of_getElem? (i := 213) rfl)) rfl
theorem zu_454 : Cond.code ⟨"HandToHand$Bench", "startUnit", "(I)Z"⟩ prog_2_method_11_code 2 (Option.some .boolean) ∈ zU := zu_t (zu_l2 (List.mem_of_getElem? (i := 214) rfl)) rfl
theorem zu_455 : Cond.methodLink "HandToHand$Bench" 122 ⟨"HandToHand$Told", "mayBegin", "(II)Z"⟩ ∈ zU := zu_t (zu_l2 (List.mem_of_getElem? (i := 215) rfl)) rfl
theorem zu_456 : Cond.instanceMethod ⟨"HandToHand$Told", "mayBegin", "(II)Z"⟩ ∈ zU := zu_t (zu_l2 (List.mem_of_getElem? (i := 216) rfl)) rfl
theorem zu_457 : Cond.selects "HandToHand$Told" ⟨"HandToHand$Told", "mayBegin", "(II)Z"⟩ ⟨"HandToHand$Told", "mayBegin", "(II)Z"⟩ ∈ zU := zu_t (zu_l2 (List.mem_of_getElem? (i := 217) rfl)) rfl
theorem zu_458 : Cond.code ⟨"HandToHand$Told", "mayBegin", "(II)Z"⟩ prog_11_method_12_code 3 (Option.some .boolean) ∈ zU := zu_t (zu_l2 (List.mem_of_getElem? (i := 218) rfl)) rfl
theorem zu_459 : Cond.methodLink "HandToHand$Bench" 126 ⟨"HandToHand$Bench", "isHeldBy", "(II)Z"⟩ ∈ zU := zu_t (zu_l2 (List.mem_of_getElem? (i := 219) rfl)) rfl
theorem zu_461 : Cond.instanceMethod ⟨"HandToHand$Bench", "isHeldBy", "(II)Z"⟩ ∈ zU := zu_t (zu_l2 (List.mem_of_getElem? (i := 221) rfl)) rfl
theorem zu_462 : Cond.code ⟨"HandToHand$Bench", "isHeldBy", "(II)Z"⟩ prog_2_method_12_code 3 (Option.some .boolean) ∈ zU := zu_t (zu_l2 (List.mem_of_getElem? (i := 222) rfl)) rfl
theorem zu_463 : Cond.methodLink "HandToHand$Bench" 129 ⟨"HandToHand$Told", "ticksOf", "(III)I"⟩ ∈ zU := zu_t (zu_l2 (List.mem_of_getElem? (i := 223) rfl)) rfl
theorem zu_464 : Cond.instanceMethod ⟨"HandToHand$Told", "ticksOf", "(III)I"⟩ ∈ zU := zu_t (zu_l2 (List.mem_of_getElem? (i := 224) rfl)) rfl
theorem zu_465 : Cond.selects "HandToHand$Told" ⟨"HandToHand$Told", "ticksOf", "(III)I"⟩ ⟨"HandToHand$Told", "ticksOf", "(III)I"⟩ ∈ zU := zu_t (zu_l2 (List.mem_of_getElem? (i := 225) rfl)) rfl
theorem zu_466 : Cond.code ⟨"HandToHand$Told", "ticksOf", "(III)I"⟩ prog_11_method_14_code 5 (Option.some .int) ∈ zU := zu_t (zu_l2 (List.mem_of_getElem? (i := 226) rfl)) rfl
theorem zu_467 : Cond.fieldLink "HandToHand" 10 "HandToHand" "told" "LHandToHand$Told;" ∈ zU := zu_t (zu_l2 (List.mem_of_getElem? (i := 227) rfl)) rfl
theorem zu_468 : Cond.fieldLink "HandToHand" 16 "HandToHand" "variant" "LHandToHand$Told;" ∈ zU := zu_t (zu_l2 (List.mem_of_getElem? (i := 228) rfl)) rfl
theorem zu_469 : Cond.fieldLink "HandToHand" 22 "HandToHand" "reader" "LHandToHand$Reader;" ∈ zU := zu_t (zu_l2 (List.mem_of_getElem? (i := 229) rfl)) rfl
theorem zu_470 : Cond.fieldLink "HandToHand" 31 "HandToHand" "bench" "LHandToHand$Bench;" ∈ zU := zu_t (zu_l2 (List.mem_of_getElem? (i := 230) rfl)) rfl
theorem zu_471 : Cond.fieldLink "HandToHand" 35 "HandToHand" "images" "[LHandToHand$Bench;" ∈ zU := zu_t (zu_l2 (List.mem_of_getElem? (i := 231) rfl)) rfl
theorem zu_472 : Cond.fieldLink "HandToHand" 39 "HandToHand" "kept" "[Z" ∈ zU := zu_t (zu_l2 (List.mem_of_getElem? (i := 232) rfl)) rfl
theorem zu_473 : Cond.fieldLink "HandToHand" 48 "HandToHand" "course" "LHandToHand$Course;" ∈ zU := zu_t (zu_l2 (List.mem_of_getElem? (i := 233) rfl)) rfl
theorem zu_474 : Cond.fieldLink "HandToHand" 55 "HandToHand" "settling" "LHandToHand$Settling;" ∈ zU := zu_t (zu_l2 (List.mem_of_getElem? (i := 234) rfl)) rfl
theorem zu_475 : Cond.fieldLink "HandToHand" 62 "HandToHand" "ring" "LHandToHand$Ring;" ∈ zU := zu_t (zu_l2 (List.mem_of_getElem? (i := 235) rfl)) rfl
theorem zu_476 : Cond.fieldLink "HandToHand" 66 "HandToHand" "variantRing" "LHandToHand$Ring;" ∈ zU := zu_t (zu_l2 (List.mem_of_getElem? (i := 236) rfl)) rfl
theorem zu_477 : Cond.fieldLink "HandToHand" 72 "HandToHand" "orders" "LHandToHand$Orders;" ∈ zU := zu_t (zu_l2 (List.mem_of_getElem? (i := 237) rfl)) rfl
theorem zu_478 : Cond.fieldLink "HandToHand" 79 "HandToHand" "bestParts" "LHandToHand$Parts;" ∈ zU := zu_t (zu_l2 (List.mem_of_getElem? (i := 238) rfl)) rfl
theorem zu_479 : Cond.fieldLink "HandToHand" 85 "HandToHand" "sheets" "[LHandToHand$Sheet;" ∈ zU := zu_t (zu_l2 (List.mem_of_getElem? (i := 239) rfl)) rfl
theorem zu_480 : Cond.fieldLink "HandToHand" 367 "HandToHand" "latestTorn" "I" ∈ zU := zu_t (zu_l3 (List.mem_of_getElem? (i := 0) rfl)) rfl
theorem zu_510 : Cond.methodLink "HandToHandLaw" 15 ⟨"HandToHand", "feed", "(J)I"⟩ ∈ zU := zu_t (zu_l3 (List.mem_of_getElem? (i := 30) rfl)) rfl
theorem zu_511 : Cond.instanceMethod ⟨"HandToHand", "feed", "(J)I"⟩ ∈ zU := zu_t (zu_l3 (List.mem_of_getElem? (i := 31) rfl)) rfl
theorem zu_512 : Cond.selects "HandToHand" ⟨"HandToHand", "feed", "(J)I"⟩ ⟨"HandToHand", "feed", "(J)I"⟩ ∈ zU := zu_t (zu_l3 (List.mem_of_getElem? (i := 32) rfl)) rfl
theorem zu_513 : Cond.code ⟨"HandToHand", "feed", "(J)I"⟩ prog_1_method_2_code 4 (Option.some .int) ∈ zU := zu_t (zu_l3 (List.mem_of_getElem? (i := 33) rfl)) rfl
theorem zu_514 : Cond.methodLink "HandToHandLaw" 20 ⟨"HandToHand", "end", "(I)I"⟩ ∈ zU := zu_t (zu_l3 (List.mem_of_getElem? (i := 34) rfl)) rfl
theorem zu_515 : Cond.instanceMethod ⟨"HandToHand", "end", "(I)I"⟩ ∈ zU := zu_t (zu_l3 (List.mem_of_getElem? (i := 35) rfl)) rfl
theorem zu_516 : Cond.selects "HandToHand" ⟨"HandToHand", "end", "(I)I"⟩ ⟨"HandToHand", "end", "(I)I"⟩ ∈ zU := zu_t (zu_l3 (List.mem_of_getElem? (i := 36) rfl)) rfl
theorem zu_517 : Cond.code ⟨"HandToHand", "end", "(I)I"⟩ prog_1_method_3_code 3 (Option.some .int) ∈ zU := zu_t (zu_l3 (List.mem_of_getElem? (i := 37) rfl)) rfl
theorem zu_518 : Cond.methodLink "HandToHandLaw" 25 ⟨"HandToHand", "text", "()I"⟩ ∈ zU := zu_t (zu_l3 (List.mem_of_getElem? (i := 38) rfl)) rfl
theorem zu_519 : Cond.instanceMethod ⟨"HandToHand", "text", "()I"⟩ ∈ zU := zu_t (zu_l3 (List.mem_of_getElem? (i := 39) rfl)) rfl
theorem zu_520 : Cond.selects "HandToHand" ⟨"HandToHand", "text", "()I"⟩ ⟨"HandToHand", "text", "()I"⟩ ∈ zU := zu_t (zu_l3 (List.mem_of_getElem? (i := 40) rfl)) rfl
theorem zu_521 : Cond.code ⟨"HandToHand", "text", "()I"⟩ prog_1_method_4_code 3 (Option.some .int) ∈ zU := zu_t (zu_l3 (List.mem_of_getElem? (i := 41) rfl)) rfl
theorem zu_522 : Cond.methodLink "HandToHand" 107 ⟨"HandToHand$Reader", "readAll", "()Z"⟩ ∈ zU := zu_t (zu_l3 (List.mem_of_getElem? (i := 42) rfl)) rfl
theorem zu_523 : Cond.instanceMethod ⟨"HandToHand$Reader", "readAll", "()Z"⟩ ∈ zU := zu_t (zu_l3 (List.mem_of_getElem? (i := 43) rfl)) rfl
theorem zu_524 : Cond.selects "HandToHand$Reader" ⟨"HandToHand$Reader", "readAll", "()Z"⟩ ⟨"HandToHand$Reader", "readAll", "()Z"⟩ ∈ zU := zu_t (zu_l3 (List.mem_of_getElem? (i := 44) rfl)) rfl
theorem zu_525 : Cond.code ⟨"HandToHand$Reader", "readAll", "()Z"⟩ prog_7_method_2_code 3 (Option.some .boolean) ∈ zU := zu_t (zu_l3 (List.mem_of_getElem? (i := 45) rfl)) rfl
theorem zu_526 : Cond.methodLink "HandToHand$Reader" 48 ⟨"HandToHand$Told", "clear", "()V"⟩ ∈ zU := zu_t (zu_l3 (List.mem_of_getElem? (i := 46) rfl)) rfl
theorem zu_527 : Cond.methodLink "HandToHand$Reader" 51 ⟨"HandToHand$Reader", "readToken", "()Z"⟩ ∈ zU := zu_t (zu_l3 (List.mem_of_getElem? (i := 47) rfl)) rfl
theorem zu_529 : Cond.instanceMethod ⟨"HandToHand$Reader", "readToken", "()Z"⟩ ∈ zU := zu_t (zu_l3 (List.mem_of_getElem? (i := 49) rfl)) rfl
theorem zu_530 : Cond.code ⟨"HandToHand$Reader", "readToken", "()Z"⟩ prog_7_method_19_code 1 (Option.some .boolean) ∈ zU := zu_t (zu_l3 (List.mem_of_getElem? (i := 50) rfl)) rfl
theorem zu_531 : Cond.methodLink "HandToHand$Reader" 162 ⟨"HandToHand$Reader", "isLetter", "(I)Z"⟩ ∈ zU := zu_t (zu_l3 (List.mem_of_getElem? (i := 51) rfl)) rfl
theorem zu_533 : Cond.instanceMethod ⟨"HandToHand$Reader", "isLetter", "(I)Z"⟩ ∈ zU := zu_t (zu_l3 (List.mem_of_getElem? (i := 53) rfl)) rfl
theorem zu_534 : Cond.code ⟨"HandToHand$Reader", "isLetter", "(I)Z"⟩ prog_7_method_22_code 2 (Option.some .boolean) ∈ zU := zu_t (zu_l3 (List.mem_of_getElem? (i := 54) rfl)) rfl
theorem zu_535 : Cond.methodLink "HandToHand$Reader" 165 ⟨"HandToHand$Reader", "readName", "()Z"⟩ ∈ zU := zu_t (zu_l3 (List.mem_of_getElem? (i := 55) rfl)) rfl
theorem zu_537 : Cond.instanceMethod ⟨"HandToHand$Reader", "readName", "()Z"⟩ ∈ zU := zu_t (zu_l3 (List.mem_of_getElem? (i := 57) rfl)) rfl
theorem zu_538 : Cond.code ⟨"HandToHand$Reader", "readName", "()Z"⟩ prog_7_method_20_code 4 (Option.some .boolean) ∈ zU := zu_t (zu_l3 (List.mem_of_getElem? (i := 58) rfl)) rfl
theorem zu_539 : Cond.methodLink "HandToHand$Reader" 174 ⟨"HandToHand$Reader", "wordOf", "(I)Ljava/lang/String;"⟩ ∈ zU := zu_t (zu_l3 (List.mem_of_getElem? (i := 59) rfl)) rfl
theorem zu_540 : Cond.static ⟨"HandToHand$Reader", "wordOf", "(I)Ljava/lang/String;"⟩ ∈ zU := zu_t (zu_l3 (List.mem_of_getElem? (i := 60) rfl)) rfl
theorem zu_541 : Cond.code ⟨"HandToHand$Reader", "wordOf", "(I)Ljava/lang/String;"⟩ prog_7_method_24_code 1 (Option.some (.object "java/lang/String")) ∈ zU := zu_t (zu_l3 (List.mem_of_getElem? (i := 61) rfl)) rfl
theorem zu_553 : Cond.methodLink "HandToHand$Reader" 178 ⟨"java/lang/String", "length", "()I"⟩ ∈ zU := zu_t (zu_l3 (List.mem_of_getElem? (i := 73) rfl)) rfl
theorem zu_554 : Cond.instanceMethod ⟨"java/lang/String", "length", "()I"⟩ ∈ zU := zu_t (zu_l3 (List.mem_of_getElem? (i := 74) rfl)) rfl
theorem zu_555 : Cond.selects "java/lang/String" ⟨"java/lang/String", "length", "()I"⟩ ⟨"java/lang/String", "length", "()I"⟩ ∈ zU := zu_t (zu_l3 (List.mem_of_getElem? (i := 75) rfl)) rfl
theorem zu_556 : Cond.code ⟨"java/lang/String", "length", "()I"⟩ prog_14_method_54_code 1 (Option.some .int) ∈ zU := zu_t (zu_l3 (List.mem_of_getElem? (i := 76) rfl)) rfl
theorem zu_557 : Cond.methodLink "java/lang/String" 335 ⟨"java/lang/String", "coder", "()B"⟩ ∈ zU := zu_t (zu_l3 (List.mem_of_getElem? (i := 77) rfl)) rfl
theorem zu_558 : Cond.instanceMethod ⟨"java/lang/String", "coder", "()B"⟩ ∈ zU := zu_t (zu_l3 (List.mem_of_getElem? (i := 78) rfl)) rfl
theorem zu_559 : Cond.selects "java/lang/String" ⟨"java/lang/String", "coder", "()B"⟩ ⟨"java/lang/String", "coder", "()B"⟩ ∈ zU := zu_t (zu_l3 (List.mem_of_getElem? (i := 79) rfl)) rfl
theorem zu_560 : Cond.code ⟨"java/lang/String", "coder", "()B"⟩ prog_14_method_152_code 1 (Option.some .byte) ∈ zU := zu_t (zu_l3 (List.mem_of_getElem? (i := 80) rfl)) rfl
theorem zu_561 : Cond.fieldLink "java/lang/String" 38 "java/lang/String" "COMPACT_STRINGS" "Z" ∈ zU := zu_t (zu_l3 (List.mem_of_getElem? (i := 81) rfl)) rfl
theorem zu_563 : Cond.methodLink "HandToHand$Reader" 183 ⟨"java/lang/String", "charAt", "(I)C"⟩ ∈ zU := zu_t (zu_l3 (List.mem_of_getElem? (i := 83) rfl)) rfl
theorem zu_564 : Cond.instanceMethod ⟨"java/lang/String", "charAt", "(I)C"⟩ ∈ zU := zu_t (zu_l3 (List.mem_of_getElem? (i := 84) rfl)) rfl
theorem zu_565 : Cond.selects "java/lang/String" ⟨"java/lang/String", "charAt", "(I)C"⟩ ⟨"java/lang/String", "charAt", "(I)C"⟩ ∈ zU := zu_t (zu_l3 (List.mem_of_getElem? (i := 85) rfl)) rfl
theorem zu_566 : Cond.code ⟨"java/lang/String", "charAt", "(I)C"⟩ prog_14_method_56_code 2 (Option.some .char) ∈ zU := zu_t (zu_l3 (List.mem_of_getElem? (i := 86) rfl)) rfl
theorem zu_567 : Cond.methodLink "java/lang/String" 492 ⟨"java/lang/String", "isLatin1", "()Z"⟩ ∈ zU := zu_t (zu_l3 (List.mem_of_getElem? (i := 87) rfl)) rfl
theorem zu_568 : Cond.instanceMethod ⟨"java/lang/String", "isLatin1", "()Z"⟩ ∈ zU := zu_t (zu_l3 (List.mem_of_getElem? (i := 88) rfl)) rfl
theorem zu_569 : Cond.selects "java/lang/String" ⟨"java/lang/String", "isLatin1", "()Z"⟩ ⟨"java/lang/String", "isLatin1", "()Z"⟩ ∈ zU := zu_t (zu_l3 (List.mem_of_getElem? (i := 89) rfl)) rfl
theorem zu_570 : Cond.code ⟨"java/lang/String", "isLatin1", "()Z"⟩ prog_14_method_154_code 1 (Option.some .boolean) ∈ zU := zu_t (zu_l3 (List.mem_of_getElem? (i := 90) rfl)) rfl
theorem zu_571 : Cond.methodLink "java/lang/String" 495 ⟨"java/lang/StringLatin1", "charAt", "([BI)C"⟩ ∈ zU := zu_t (zu_l3 (List.mem_of_getElem? (i := 91) rfl)) rfl
theorem zu_572 : Cond.static ⟨"java/lang/StringLatin1", "charAt", "([BI)C"⟩ ∈ zU := zu_t (zu_l3 (List.mem_of_getElem? (i := 92) rfl)) rfl
theorem zu_573 : Cond.code ⟨"java/lang/StringLatin1", "charAt", "([BI)C"⟩ prog_15_method_2_code 2 (Option.some .char) ∈ zU := zu_t (zu_l3 (List.mem_of_getElem? (i := 93) rfl)) rfl
theorem zu_574 : Cond.methodLink "java/lang/StringLatin1" 9 ⟨"java/lang/String", "checkIndex", "(II)V"⟩ ∈ zU := zu_t (zu_l3 (List.mem_of_getElem? (i := 94) rfl)) rfl
theorem zu_575 : Cond.static ⟨"java/lang/String", "checkIndex", "(II)V"⟩ ∈ zU := zu_t (zu_l3 (List.mem_of_getElem? (i := 95) rfl)) rfl
theorem zu_576 : Cond.code ⟨"java/lang/String", "checkIndex", "(II)V"⟩ prog_14_method_155_code 2 none ∈ zU := zu_t (zu_l3 (List.mem_of_getElem? (i := 96) rfl)) rfl
theorem zu_577 : Cond.fieldLink "java/lang/String" 1053 "jdk/internal/util/Preconditions" "SIOOBE_FORMATTER" "Ljava/util/function/BiFunction;" ∈ zU := zu_t (zu_l3 (List.mem_of_getElem? (i := 97) rfl)) rfl
theorem zu_579 : Cond.methodLink "java/lang/String" 1059 ⟨"jdk/internal/util/Preconditions", "checkIndex", "(IILjava/util/function/BiFunction;)I"⟩ ∈ zU := zu_t (zu_l3 (List.mem_of_getElem? (i := 99) rfl)) rfl
theorem zu_580 : Cond.static ⟨"jdk/internal/util/Preconditions", "checkIndex", "(IILjava/util/function/BiFunction;)I"⟩ ∈ zU := zu_t (zu_l3 (List.mem_of_getElem? (i := 100) rfl)) rfl
theorem zu_581 : Cond.code ⟨"jdk/internal/util/Preconditions", "checkIndex", "(IILjava/util/function/BiFunction;)I"⟩ prog_18_method_11_code 3 (Option.some .int) ∈ zU := zu_t (zu_l3 (List.mem_of_getElem? (i := 101) rfl)) rfl
theorem zu_582 : Cond.methodLink "java/lang/String" 498 ⟨"java/lang/StringUTF16", "charAt", "([BI)C"⟩ ∈ zU := zu_t (zu_l3 (List.mem_of_getElem? (i := 102) rfl)) rfl
theorem zu_583 : Cond.static ⟨"java/lang/StringUTF16", "charAt", "([BI)C"⟩ ∈ zU := zu_t (zu_l3 (List.mem_of_getElem? (i := 103) rfl)) rfl
theorem zu_584 : Cond.code ⟨"java/lang/StringUTF16", "charAt", "([BI)C"⟩ prog_16_method_83_code 2 (Option.some .char) ∈ zU := zu_t (zu_l3 (List.mem_of_getElem? (i := 104) rfl)) rfl
theorem zu_585 : Cond.methodLink "java/lang/StringUTF16" 67 ⟨"java/lang/StringUTF16", "checkIndex", "(I[B)V"⟩ ∈ zU := zu_t (zu_l3 (List.mem_of_getElem? (i := 105) rfl)) rfl
theorem zu_586 : Cond.static ⟨"java/lang/StringUTF16", "checkIndex", "(I[B)V"⟩ ∈ zU := zu_t (zu_l3 (List.mem_of_getElem? (i := 106) rfl)) rfl
theorem zu_587 : Cond.code ⟨"java/lang/StringUTF16", "checkIndex", "(I[B)V"⟩ prog_16_method_91_code 2 none ∈ zU := zu_t (zu_l3 (List.mem_of_getElem? (i := 107) rfl)) rfl
theorem zu_588 : Cond.methodLink "java/lang/StringUTF16" 48 ⟨"java/lang/StringUTF16", "length", "([B)I"⟩ ∈ zU := zu_t (zu_l3 (List.mem_of_getElem? (i := 108) rfl)) rfl
theorem zu_589 : Cond.static ⟨"java/lang/StringUTF16", "length", "([B)I"⟩ ∈ zU := zu_t (zu_l3 (List.mem_of_getElem? (i := 109) rfl)) rfl
theorem zu_590 : Cond.code ⟨"java/lang/StringUTF16", "length", "([B)I"⟩ prog_16_method_6_code 1 (Option.some .int) ∈ zU := zu_t (zu_l3 (List.mem_of_getElem? (i := 110) rfl)) rfl
theorem zu_591 : Cond.methodLink "java/lang/StringUTF16" 414 ⟨"java/lang/String", "checkIndex", "(II)V"⟩ ∈ zU := zu_t (zu_l3 (List.mem_of_getElem? (i := 111) rfl)) rfl
theorem zu_592 : Cond.methodLink "java/lang/StringUTF16" 71 ⟨"java/lang/StringUTF16", "getChar", "([BI)C"⟩ ∈ zU := zu_t (zu_l3 (List.mem_of_getElem? (i := 112) rfl)) rfl
theorem zu_593 : Cond.static ⟨"java/lang/StringUTF16", "getChar", "([BI)C"⟩ ∈ zU := zu_t (zu_l3 (List.mem_of_getElem? (i := 113) rfl)) rfl
theorem zu_594 : Cond.code ⟨"java/lang/StringUTF16", "getChar", "([BI)C"⟩ prog_16_method_5_code 2 (Option.some .char) ∈ zU := zu_t (zu_l3 (List.mem_of_getElem? (i := 114) rfl)) rfl
theorem zu_595 : Cond.fieldLink "java/lang/StringUTF16" 44 "java/lang/StringUTF16" "$assertionsDisabled" "Z" ∈ zU := zu_t (zu_l3 (List.mem_of_getElem? (i := 115) rfl)) rfl
theorem zu_597 : Cond.fieldLink "java/lang/StringUTF16" 59 "java/lang/StringUTF16" "HI_BYTE_SHIFT" "I" ∈ zU := zu_t (zu_l3 (List.mem_of_getElem? (i := 117) rfl)) rfl
theorem zu_599 : Cond.fieldLink "java/lang/StringUTF16" 63 "java/lang/StringUTF16" "LO_BYTE_SHIFT" "I" ∈ zU := zu_t (zu_l3 (List.mem_of_getElem? (i := 119) rfl)) rfl
theorem zu_601 : Cond.methodLink "HandToHand$Reader" 73 ⟨"HandToHand$Reader", "refuse", "(II)Z"⟩ ∈ zU := zu_t (zu_l3 (List.mem_of_getElem? (i := 121) rfl)) rfl
theorem zu_603 : Cond.instanceMethod ⟨"HandToHand$Reader", "refuse", "(II)Z"⟩ ∈ zU := zu_t (zu_l3 (List.mem_of_getElem? (i := 123) rfl)) rfl
theorem zu_604 : Cond.code ⟨"HandToHand$Reader", "refuse", "(II)Z"⟩ prog_7_method_3_code 3 (Option.some .boolean) ∈ zU := zu_t (zu_l3 (List.mem_of_getElem? (i := 124) rfl)) rfl
theorem zu_605 : Cond.methodLink "HandToHand$Reader" 168 ⟨"HandToHand$Reader", "isFigure", "(I)Z"⟩ ∈ zU := zu_t (zu_l3 (List.mem_of_getElem? (i := 125) rfl)) rfl
theorem zu_607 : Cond.instanceMethod ⟨"HandToHand$Reader", "isFigure", "(I)Z"⟩ ∈ zU := zu_t (zu_l3 (List.mem_of_getElem? (i := 127) rfl)) rfl
theorem zu_608 : Cond.code ⟨"HandToHand$Reader", "isFigure", "(I)Z"⟩ prog_7_method_23_code 2 (Option.some .boolean) ∈ zU := zu_t (zu_l3 (List.mem_of_getElem? (i := 128) rfl)) rfl
theorem zu_609 : Cond.methodLink "HandToHand$Reader" 171 ⟨"HandToHand$Reader", "readFigures", "()Z"⟩ ∈ zU := zu_t (zu_l3 (List.mem_of_getElem? (i := 129) rfl)) rfl
theorem zu_611 : Cond.instanceMethod ⟨"HandToHand$Reader", "readFigures", "()Z"⟩ ∈ zU := zu_t (zu_l3 (List.mem_of_getElem? (i := 131) rfl)) rfl
theorem zu_612 : Cond.code ⟨"HandToHand$Reader", "readFigures", "()Z"⟩ prog_7_method_21_code 1 (Option.some .boolean) ∈ zU := zu_t (zu_l3 (List.mem_of_getElem? (i := 132) rfl)) rfl
theorem zu_613 : Cond.methodLink "HandToHand$Reader" 58 ⟨"HandToHand$Reader", "readLine", "()Z"⟩ ∈ zU := zu_t (zu_l3 (List.mem_of_getElem? (i := 133) rfl)) rfl
theorem zu_615 : Cond.instanceMethod ⟨"HandToHand$Reader", "readLine", "()Z"⟩ ∈ zU := zu_t (zu_l3 (List.mem_of_getElem? (i := 135) rfl)) rfl
theorem zu_616 : Cond.code ⟨"HandToHand$Reader", "readLine", "()Z"⟩ prog_7_method_5_code 1 (Option.some .boolean) ∈ zU := zu_t (zu_l3 (List.mem_of_getElem? (i := 136) rfl)) rfl
theorem zu_617 : Cond.methodLink "HandToHand$Reader" 100 ⟨"HandToHand$Reader", "readPiece", "()Z"⟩ ∈ zU := zu_t (zu_l3 (List.mem_of_getElem? (i := 137) rfl)) rfl
theorem zu_619 : Cond.instanceMethod ⟨"HandToHand$Reader", "readPiece", "()Z"⟩ ∈ zU := zu_t (zu_l3 (List.mem_of_getElem? (i := 139) rfl)) rfl
theorem zu_620 : Cond.code ⟨"HandToHand$Reader", "readPiece", "()Z"⟩ prog_7_method_7_code 1 (Option.some .boolean) ∈ zU := zu_t (zu_l3 (List.mem_of_getElem? (i := 140) rfl)) rfl
theorem zu_621 : Cond.methodLink "HandToHand$Reader" 131 ⟨"HandToHand$Reader", "readNumber", "(II)Z"⟩ ∈ zU := zu_t (zu_l3 (List.mem_of_getElem? (i := 141) rfl)) rfl
theorem zu_623 : Cond.instanceMethod ⟨"HandToHand$Reader", "readNumber", "(II)Z"⟩ ∈ zU := zu_t (zu_l3 (List.mem_of_getElem? (i := 143) rfl)) rfl
theorem zu_624 : Cond.code ⟨"HandToHand$Reader", "readNumber", "(II)Z"⟩ prog_7_method_15_code 3 (Option.some .boolean) ∈ zU := zu_t (zu_l3 (List.mem_of_getElem? (i := 144) rfl)) rfl
theorem zu_625 : Cond.methodLink "HandToHand$Reader" 140 ⟨"HandToHand$Reader", "isWithin", "(II)Z"⟩ ∈ zU := zu_t (zu_l3 (List.mem_of_getElem? (i := 145) rfl)) rfl
theorem zu_627 : Cond.instanceMethod ⟨"HandToHand$Reader", "isWithin", "(II)Z"⟩ ∈ zU := zu_t (zu_l3 (List.mem_of_getElem? (i := 147) rfl)) rfl
theorem zu_628 : Cond.code ⟨"HandToHand$Reader", "isWithin", "(II)Z"⟩ prog_7_method_16_code 3 (Option.some .boolean) ∈ zU := zu_t (zu_l3 (List.mem_of_getElem? (i := 148) rfl)) rfl
theorem zu_629 : Cond.methodLink "HandToHand$Reader" 125 ⟨"HandToHand$Reader", "readSign", "()Z"⟩ ∈ zU := zu_t (zu_l3 (List.mem_of_getElem? (i := 149) rfl)) rfl
theorem zu_631 : Cond.instanceMethod ⟨"HandToHand$Reader", "readSign", "()Z"⟩ ∈ zU := zu_t (zu_l3 (List.mem_of_getElem? (i := 151) rfl)) rfl
theorem zu_632 : Cond.code ⟨"HandToHand$Reader", "readSign", "()Z"⟩ prog_7_method_17_code 1 (Option.some .boolean) ∈ zU := zu_t (zu_l3 (List.mem_of_getElem? (i := 152) rfl)) rfl
theorem zu_633 : Cond.methodLink "HandToHand$Reader" 146 ⟨"HandToHand$Reader", "isSign", "()Z"⟩ ∈ zU := zu_t (zu_l3 (List.mem_of_getElem? (i := 153) rfl)) rfl
theorem zu_635 : Cond.instanceMethod ⟨"HandToHand$Reader", "isSign", "()Z"⟩ ∈ zU := zu_t (zu_l3 (List.mem_of_getElem? (i := 155) rfl)) rfl
theorem zu_636 : Cond.code ⟨"HandToHand$Reader", "isSign", "()Z"⟩ prog_7_method_18_code 1 (Option.some .boolean) ∈ zU := zu_t (zu_l3 (List.mem_of_getElem? (i := 156) rfl)) rfl
theorem zu_637 : Cond.methodLink "HandToHand$Reader" 103 ⟨"HandToHand$Reader", "readWhole", "()Z"⟩ ∈ zU := zu_t (zu_l3 (List.mem_of_getElem? (i := 157) rfl)) rfl
theorem zu_639 : Cond.instanceMethod ⟨"HandToHand$Reader", "readWhole", "()Z"⟩ ∈ zU := zu_t (zu_l3 (List.mem_of_getElem? (i := 159) rfl)) rfl
theorem zu_640 : Cond.code ⟨"HandToHand$Reader", "readWhole", "()Z"⟩ prog_7_method_8_code 1 (Option.some .boolean) ∈ zU := zu_t (zu_l3 (List.mem_of_getElem? (i := 160) rfl)) rfl
theorem zu_641 : Cond.methodLink "HandToHand$Reader" 106 ⟨"HandToHand$Reader", "readSort", "()Z"⟩ ∈ zU := zu_t (zu_l3 (List.mem_of_getElem? (i := 161) rfl)) rfl
theorem zu_643 : Cond.instanceMethod ⟨"HandToHand$Reader", "readSort", "()Z"⟩ ∈ zU := zu_t (zu_l3 (List.mem_of_getElem? (i := 163) rfl)) rfl
theorem zu_644 : Cond.code ⟨"HandToHand$Reader", "readSort", "()Z"⟩ prog_7_method_9_code 3 (Option.some .boolean) ∈ zU := zu_t (zu_l3 (List.mem_of_getElem? (i := 164) rfl)) rfl
theorem zu_645 : Cond.methodLink "HandToHand$Reader" 109 ⟨"HandToHand$Reader", "readHand", "()Z"⟩ ∈ zU := zu_t (zu_l3 (List.mem_of_getElem? (i := 165) rfl)) rfl
theorem zu_647 : Cond.instanceMethod ⟨"HandToHand$Reader", "readHand", "()Z"⟩ ∈ zU := zu_t (zu_l3 (List.mem_of_getElem? (i := 167) rfl)) rfl
theorem zu_648 : Cond.code ⟨"HandToHand$Reader", "readHand", "()Z"⟩ prog_7_method_11_code 2 (Option.some .boolean) ∈ zU := zu_t (zu_l3 (List.mem_of_getElem? (i := 168) rfl)) rfl
theorem zu_649 : Cond.methodLink "HandToHand$Reader" 112 ⟨"HandToHand$Reader", "readOnce", "(I)Z"⟩ ∈ zU := zu_t (zu_l3 (List.mem_of_getElem? (i := 169) rfl)) rfl
theorem zu_651 : Cond.instanceMethod ⟨"HandToHand$Reader", "readOnce", "(I)Z"⟩ ∈ zU := zu_t (zu_l3 (List.mem_of_getElem? (i := 171) rfl)) rfl
theorem zu_652 : Cond.code ⟨"HandToHand$Reader", "readOnce", "(I)Z"⟩ prog_7_method_6_code 2 (Option.some .boolean) ∈ zU := zu_t (zu_l3 (List.mem_of_getElem? (i := 172) rfl)) rfl
theorem zu_653 : Cond.methodLink "HandToHand$Reader" 116 ⟨"HandToHand$Reader", "readRow", "()Z"⟩ ∈ zU := zu_t (zu_l3 (List.mem_of_getElem? (i := 173) rfl)) rfl
theorem zu_655 : Cond.instanceMethod ⟨"HandToHand$Reader", "readRow", "()Z"⟩ ∈ zU := zu_t (zu_l3 (List.mem_of_getElem? (i := 175) rfl)) rfl
theorem zu_656 : Cond.code ⟨"HandToHand$Reader", "readRow", "()Z"⟩ prog_7_method_10_code 3 (Option.some .boolean) ∈ zU := zu_t (zu_l3 (List.mem_of_getElem? (i := 176) rfl)) rfl
theorem zu_657 : Cond.methodLink "HandToHand$Reader" 119 ⟨"HandToHand$Reader", "readWalk", "()Z"⟩ ∈ zU := zu_t (zu_l3 (List.mem_of_getElem? (i := 177) rfl)) rfl
theorem zu_659 : Cond.instanceMethod ⟨"HandToHand$Reader", "readWalk", "()Z"⟩ ∈ zU := zu_t (zu_l3 (List.mem_of_getElem? (i := 179) rfl)) rfl
theorem zu_660 : Cond.code ⟨"HandToHand$Reader", "readWalk", "()Z"⟩ prog_7_method_12_code 1 (Option.some .boolean) ∈ zU := zu_t (zu_l3 (List.mem_of_getElem? (i := 180) rfl)) rfl
theorem zu_661 : Cond.methodLink "HandToHand$Reader" 122 ⟨"HandToHand$Reader", "readLearn", "()Z"⟩ ∈ zU := zu_t (zu_l3 (List.mem_of_getElem? (i := 181) rfl)) rfl
theorem zu_663 : Cond.instanceMethod ⟨"HandToHand$Reader", "readLearn", "()Z"⟩ ∈ zU := zu_t (zu_l3 (List.mem_of_getElem? (i := 183) rfl)) rfl
theorem zu_664 : Cond.code ⟨"HandToHand$Reader", "readLearn", "()Z"⟩ prog_7_method_13_code 1 (Option.some .boolean) ∈ zU := zu_t (zu_l3 (List.mem_of_getElem? (i := 184) rfl)) rfl
theorem zu_665 : Cond.methodLink "HandToHand$Reader" 128 ⟨"HandToHand$Reader", "readEnds", "(I)Z"⟩ ∈ zU := zu_t (zu_l3 (List.mem_of_getElem? (i := 185) rfl)) rfl
theorem zu_667 : Cond.instanceMethod ⟨"HandToHand$Reader", "readEnds", "(I)Z"⟩ ∈ zU := zu_t (zu_l3 (List.mem_of_getElem? (i := 187) rfl)) rfl
theorem zu_668 : Cond.code ⟨"HandToHand$Reader", "readEnds", "(I)Z"⟩ prog_7_method_14_code 4 (Option.some .boolean) ∈ zU := zu_t (zu_l3 (List.mem_of_getElem? (i := 188) rfl)) rfl
theorem zu_669 : Cond.methodLink "HandToHand$Reader" 61 ⟨"HandToHand$Reader", "isComplete", "()Z"⟩ ∈ zU := zu_t (zu_l3 (List.mem_of_getElem? (i := 189) rfl)) rfl
theorem zu_671 : Cond.instanceMethod ⟨"HandToHand$Reader", "isComplete", "()Z"⟩ ∈ zU := zu_t (zu_l3 (List.mem_of_getElem? (i := 191) rfl)) rfl
theorem zu_672 : Cond.code ⟨"HandToHand$Reader", "isComplete", "()Z"⟩ prog_7_method_4_code 2 (Option.some .boolean) ∈ zU := zu_t (zu_l3 (List.mem_of_getElem? (i := 192) rfl)) rfl
theorem zu_673 : Cond.methodLink "HandToHand$Reader" 81 ⟨"java/lang/System", "arraycopy", "(Ljava/lang/Object;ILjava/lang/Object;II)V"⟩ ∈ zU := zu_t (zu_l3 (List.mem_of_getElem? (i := 193) rfl)) rfl
theorem zu_674 : Cond.static ⟨"java/lang/System", "arraycopy", "(Ljava/lang/Object;ILjava/lang/Object;II)V"⟩ ∈ zU := zu_t (zu_l3 (List.mem_of_getElem? (i := 194) rfl)) rfl
theorem zu_675 : Cond.native ⟨"java/lang/System", "arraycopy", "(Ljava/lang/Object;ILjava/lang/Object;II)V"⟩ ∈ zU := zu_t (zu_l3 (List.mem_of_getElem? (i := 195) rfl)) rfl
theorem zu_676 : Cond.methodLink "HandToHand$Reader" 87 ⟨"HandToHand$Told", "pieceFrom", "(II)I"⟩ ∈ zU := zu_t (zu_l3 (List.mem_of_getElem? (i := 196) rfl)) rfl
theorem zu_677 : Cond.methodLink "HandToHand$Reader" 91 ⟨"HandToHand$Told", "fillEnds", "()V"⟩ ∈ zU := zu_t (zu_l3 (List.mem_of_getElem? (i := 197) rfl)) rfl
theorem zu_678 : Cond.methodLink "HandToHand" 117 ⟨"HandToHand$Told", "copyFrom", "(LHandToHand$Told;)V"⟩ ∈ zU := zu_t (zu_l3 (List.mem_of_getElem? (i := 198) rfl)) rfl
theorem zu_679 : Cond.instanceMethod ⟨"HandToHand$Told", "copyFrom", "(LHandToHand$Told;)V"⟩ ∈ zU := zu_t (zu_l3 (List.mem_of_getElem? (i := 199) rfl)) rfl
theorem zu_680 : Cond.selects "HandToHand$Told" ⟨"HandToHand$Told", "copyFrom", "(LHandToHand$Told;)V"⟩ ⟨"HandToHand$Told", "copyFrom", "(LHandToHand$Told;)V"⟩ ∈ zU := zu_t (zu_l3 (List.mem_of_getElem? (i := 200) rfl)) rfl
theorem zu_681 : Cond.code ⟨"HandToHand$Told", "copyFrom", "(LHandToHand$Told;)V"⟩ prog_11_method_4_code 2 none ∈ zU := zu_t (zu_l3 (List.mem_of_getElem? (i := 201) rfl)) rfl
theorem zu_682 : Cond.methodLink "HandToHand$Told" 52 ⟨"java/lang/System", "arraycopy", "(Ljava/lang/Object;ILjava/lang/Object;II)V"⟩ ∈ zU := zu_t (zu_l3 (List.mem_of_getElem? (i := 202) rfl)) rfl
theorem zu_683 : Cond.methodLink "HandToHand" 120 ⟨"HandToHand", "forgetAnswers", "()V"⟩ ∈ zU := zu_t (zu_l3 (List.mem_of_getElem? (i := 203) rfl)) rfl
theorem zu_685 : Cond.instanceMethod ⟨"HandToHand", "forgetAnswers", "()V"⟩ ∈ zU := zu_t (zu_l3 (List.mem_of_getElem? (i := 205) rfl)) rfl
theorem zu_686 : Cond.code ⟨"HandToHand", "forgetAnswers", "()V"⟩ prog_1_method_48_code 1 none ∈ zU := zu_t (zu_l3 (List.mem_of_getElem? (i := 206) rfl)) rfl
theorem zu_687 : Cond.methodLink "HandToHand" 376 ⟨"HandToHand$Orders", "forget", "()V"⟩ ∈ zU := zu_t (zu_l3 (List.mem_of_getElem? (i := 207) rfl)) rfl
theorem zu_688 : Cond.instanceMethod ⟨"HandToHand$Orders", "forget", "()V"⟩ ∈ zU := zu_t (zu_l3 (List.mem_of_getElem? (i := 208) rfl)) rfl
theorem zu_689 : Cond.selects "HandToHand$Orders" ⟨"HandToHand$Orders", "forget", "()V"⟩ ⟨"HandToHand$Orders", "forget", "()V"⟩ ∈ zU := zu_t (zu_l3 (List.mem_of_getElem? (i := 209) rfl)) rfl
theorem zu_690 : Cond.code ⟨"HandToHand$Orders", "forget", "()V"⟩ prog_5_method_2_code 2 none ∈ zU := zu_t (zu_l3 (List.mem_of_getElem? (i := 210) rfl)) rfl
theorem zu_691 : Cond.methodLink "HandToHandLaw" 30 ⟨"HandToHand", "fault", "()I"⟩ ∈ zU := zu_t (zu_l3 (List.mem_of_getElem? (i := 211) rfl)) rfl
theorem zu_692 : Cond.instanceMethod ⟨"HandToHand", "fault", "()I"⟩ ∈ zU := zu_t (zu_l3 (List.mem_of_getElem? (i := 212) rfl)) rfl
theorem zu_693 : Cond.selects "HandToHand" ⟨"HandToHand", "fault", "()I"⟩ ⟨"HandToHand", "fault", "()I"⟩ ∈ zU := zu_t (zu_l3 (List.mem_of_getElem? (i := 213) rfl)) rfl
theorem zu_694 : Cond.code ⟨"HandToHand", "fault", "()I"⟩ prog_1_method_5_code 1 (Option.some .int) ∈ zU := zu_t (zu_l3 (List.mem_of_getElem? (i := 214) rfl)) rfl
theorem zu_695 : Cond.methodLink "HandToHandLaw" 34 ⟨"HandToHand", "rule", "(I)I"⟩ ∈ zU := zu_t (zu_l3 (List.mem_of_getElem? (i := 215) rfl)) rfl
theorem zu_696 : Cond.instanceMethod ⟨"HandToHand", "rule", "(I)I"⟩ ∈ zU := zu_t (zu_l3 (List.mem_of_getElem? (i := 216) rfl)) rfl
theorem zu_697 : Cond.selects "HandToHand" ⟨"HandToHand", "rule", "(I)I"⟩ ⟨"HandToHand", "rule", "(I)I"⟩ ∈ zU := zu_t (zu_l3 (List.mem_of_getElem? (i := 217) rfl)) rfl
theorem zu_698 : Cond.code ⟨"HandToHand", "rule", "(I)I"⟩ prog_1_method_6_code 2 (Option.some .int) ∈ zU := zu_t (zu_l3 (List.mem_of_getElem? (i := 218) rfl)) rfl
theorem zu_699 : Cond.methodLink "HandToHandLaw" 38 ⟨"HandToHand", "units", "(II)I"⟩ ∈ zU := zu_t (zu_l3 (List.mem_of_getElem? (i := 219) rfl)) rfl
theorem zu_700 : Cond.instanceMethod ⟨"HandToHand", "units", "(II)I"⟩ ∈ zU := zu_t (zu_l3 (List.mem_of_getElem? (i := 220) rfl)) rfl
theorem zu_701 : Cond.selects "HandToHand" ⟨"HandToHand", "units", "(II)I"⟩ ⟨"HandToHand", "units", "(II)I"⟩ ∈ zU := zu_t (zu_l3 (List.mem_of_getElem? (i := 221) rfl)) rfl
theorem zu_702 : Cond.code ⟨"HandToHand", "units", "(II)I"⟩ prog_1_method_7_code 3 (Option.some .int) ∈ zU := zu_t (zu_l3 (List.mem_of_getElem? (i := 222) rfl)) rfl
theorem zu_703 : Cond.methodLink "HandToHand" 157 ⟨"HandToHand", "isPiece", "(I)Z"⟩ ∈ zU := zu_t (zu_l3 (List.mem_of_getElem? (i := 223) rfl)) rfl
theorem zu_705 : Cond.instanceMethod ⟨"HandToHand", "isPiece", "(I)Z"⟩ ∈ zU := zu_t (zu_l3 (List.mem_of_getElem? (i := 225) rfl)) rfl
theorem zu_706 : Cond.code ⟨"HandToHand", "isPiece", "(I)Z"⟩ prog_1_method_37_code 2 (Option.some .boolean) ∈ zU := zu_t (zu_l3 (List.mem_of_getElem? (i := 226) rfl)) rfl
theorem zu_707 : Cond.methodLink "HandToHand" 161 ⟨"HandToHand$Told", "unitsOf", "(II)I"⟩ ∈ zU := zu_t (zu_l3 (List.mem_of_getElem? (i := 227) rfl)) rfl
theorem zu_708 : Cond.methodLink "HandToHandLaw" 43 ⟨"HandToHand", "pace", "(II)I"⟩ ∈ zU := zu_t (zu_l3 (List.mem_of_getElem? (i := 228) rfl)) rfl
theorem zu_709 : Cond.instanceMethod ⟨"HandToHand", "pace", "(II)I"⟩ ∈ zU := zu_t (zu_l3 (List.mem_of_getElem? (i := 229) rfl)) rfl
theorem zu_710 : Cond.selects "HandToHand" ⟨"HandToHand", "pace", "(II)I"⟩ ⟨"HandToHand", "pace", "(II)I"⟩ ∈ zU := zu_t (zu_l3 (List.mem_of_getElem? (i := 230) rfl)) rfl
theorem zu_711 : Cond.code ⟨"HandToHand", "pace", "(II)I"⟩ prog_1_method_8_code 3 (Option.some .int) ∈ zU := zu_t (zu_l3 (List.mem_of_getElem? (i := 231) rfl)) rfl
theorem zu_712 : Cond.methodLink "HandToHand" 165 ⟨"HandToHand", "isHand", "(I)Z"⟩ ∈ zU := zu_t (zu_l3 (List.mem_of_getElem? (i := 232) rfl)) rfl
theorem zu_714 : Cond.instanceMethod ⟨"HandToHand", "isHand", "(I)Z"⟩ ∈ zU := zu_t (zu_l3 (List.mem_of_getElem? (i := 234) rfl)) rfl
theorem zu_715 : Cond.code ⟨"HandToHand", "isHand", "(I)Z"⟩ prog_1_method_38_code 2 (Option.some .boolean) ∈ zU := zu_t (zu_l3 (List.mem_of_getElem? (i := 235) rfl)) rfl
theorem zu_716 : Cond.methodLink "HandToHand" 168 ⟨"HandToHand$Told", "paceOf", "(II)I"⟩ ∈ zU := zu_t (zu_l3 (List.mem_of_getElem? (i := 236) rfl)) rfl
theorem zu_717 : Cond.instanceMethod ⟨"HandToHand$Told", "paceOf", "(II)I"⟩ ∈ zU := zu_t (zu_l3 (List.mem_of_getElem? (i := 237) rfl)) rfl
theorem zu_718 : Cond.selects "HandToHand$Told" ⟨"HandToHand$Told", "paceOf", "(II)I"⟩ ⟨"HandToHand$Told", "paceOf", "(II)I"⟩ ∈ zU := zu_t (zu_l3 (List.mem_of_getElem? (i := 238) rfl)) rfl
theorem zu_719 : Cond.code ⟨"HandToHand$Told", "paceOf", "(II)I"⟩ prog_11_method_10_code 3 (Option.some .int) ∈ zU := zu_t (zu_l3 (List.mem_of_getElem? (i := 239) rfl)) rfl
theorem zu_720 : Cond.methodLink "HandToHandLaw" 47 ⟨"HandToHand", "setPace", "(III)I"⟩ ∈ zU := zu_t (zu_l4 (List.mem_of_getElem? (i := 0) rfl)) rfl
theorem zu_721 : Cond.instanceMethod ⟨"HandToHand", "setPace", "(III)I"⟩ ∈ zU := zu_t (zu_l4 (List.mem_of_getElem? (i := 1) rfl)) rfl
theorem zu_722 : Cond.selects "HandToHand" ⟨"HandToHand", "setPace", "(III)I"⟩ ⟨"HandToHand", "setPace", "(III)I"⟩ ∈ zU := zu_t (zu_l4 (List.mem_of_getElem? (i := 2) rfl)) rfl
theorem zu_723 : Cond.code ⟨"HandToHand", "setPace", "(III)I"⟩ prog_1_method_9_code 5 (Option.some .int) ∈ zU := zu_t (zu_l4 (List.mem_of_getElem? (i := 3) rfl)) rfl
theorem zu_724 : Cond.methodLink "HandToHand" 171 ⟨"HandToHand", "isPace", "(I)Z"⟩ ∈ zU := zu_t (zu_l4 (List.mem_of_getElem? (i := 4) rfl)) rfl
theorem zu_725 : Cond.static ⟨"HandToHand", "isPace", "(I)Z"⟩ ∈ zU := zu_t (zu_l4 (List.mem_of_getElem? (i := 5) rfl)) rfl
theorem zu_726 : Cond.code ⟨"HandToHand", "isPace", "(I)Z"⟩ prog_1_method_40_code 1 (Option.some .boolean) ∈ zU := zu_t (zu_l4 (List.mem_of_getElem? (i := 6) rfl)) rfl
theorem zu_727 : Cond.methodLink "HandToHandLaw" 52 ⟨"HandToHand", "begin", "()I"⟩ ∈ zU := zu_t (zu_l4 (List.mem_of_getElem? (i := 7) rfl)) rfl
theorem zu_728 : Cond.instanceMethod ⟨"HandToHand", "begin", "()I"⟩ ∈ zU := zu_t (zu_l4 (List.mem_of_getElem? (i := 8) rfl)) rfl
theorem zu_729 : Cond.selects "HandToHand" ⟨"HandToHand", "begin", "()I"⟩ ⟨"HandToHand", "begin", "()I"⟩ ∈ zU := zu_t (zu_l4 (List.mem_of_getElem? (i := 9) rfl)) rfl
theorem zu_730 : Cond.code ⟨"HandToHand", "begin", "()I"⟩ prog_1_method_10_code 2 (Option.some .int) ∈ zU := zu_t (zu_l4 (List.mem_of_getElem? (i := 10) rfl)) rfl
theorem zu_731 : Cond.methodLink "HandToHandLaw" 56 ⟨"HandToHand", "go", "(I)I"⟩ ∈ zU := zu_t (zu_l4 (List.mem_of_getElem? (i := 11) rfl)) rfl
theorem zu_732 : Cond.instanceMethod ⟨"HandToHand", "go", "(I)I"⟩ ∈ zU := zu_t (zu_l4 (List.mem_of_getElem? (i := 12) rfl)) rfl
theorem zu_733 : Cond.selects "HandToHand" ⟨"HandToHand", "go", "(I)I"⟩ ⟨"HandToHand", "go", "(I)I"⟩ ∈ zU := zu_t (zu_l4 (List.mem_of_getElem? (i := 13) rfl)) rfl
theorem zu_734 : Cond.code ⟨"HandToHand", "go", "(I)I"⟩ prog_1_method_11_code 7 (Option.some .int) ∈ zU := zu_t (zu_l4 (List.mem_of_getElem? (i := 14) rfl)) rfl
theorem zu_735 : Cond.methodLink "HandToHand" 180 ⟨"HandToHand$Bench", "leastLeft", "()I"⟩ ∈ zU := zu_t (zu_l4 (List.mem_of_getElem? (i := 15) rfl)) rfl
theorem zu_736 : Cond.instanceMethod ⟨"HandToHand$Bench", "leastLeft", "()I"⟩ ∈ zU := zu_t (zu_l4 (List.mem_of_getElem? (i := 16) rfl)) rfl
theorem zu_737 : Cond.selects "HandToHand$Bench" ⟨"HandToHand$Bench", "leastLeft", "()I"⟩ ⟨"HandToHand$Bench", "leastLeft", "()I"⟩ ∈ zU := zu_t (zu_l4 (List.mem_of_getElem? (i := 17) rfl)) rfl
theorem zu_738 : Cond.code ⟨"HandToHand$Bench", "leastLeft", "()I"⟩ prog_2_method_13_code 3 (Option.some .int) ∈ zU := zu_t (zu_l4 (List.mem_of_getElem? (i := 18) rfl)) rfl
theorem zu_739 : Cond.methodLink "HandToHand" 184 ⟨"HandToHand$Bench", "letPass", "(I)V"⟩ ∈ zU := zu_t (zu_l4 (List.mem_of_getElem? (i := 19) rfl)) rfl
theorem zu_740 : Cond.instanceMethod ⟨"HandToHand$Bench", "letPass", "(I)V"⟩ ∈ zU := zu_t (zu_l4 (List.mem_of_getElem? (i := 20) rfl)) rfl
theorem zu_741 : Cond.selects "HandToHand$Bench" ⟨"HandToHand$Bench", "letPass", "(I)V"⟩ ⟨"HandToHand$Bench", "letPass", "(I)V"⟩ ∈ zU := zu_t (zu_l4 (List.mem_of_getElem? (i := 21) rfl)) rfl
theorem zu_742 : Cond.code ⟨"HandToHand$Bench", "letPass", "(I)V"⟩ prog_2_method_14_code 3 none ∈ zU := zu_t (zu_l4 (List.mem_of_getElem? (i := 22) rfl)) rfl
theorem zu_743 : Cond.methodLink "HandToHandLaw" 60 ⟨"HandToHand", "night", "()I"⟩ ∈ zU := zu_t (zu_l4 (List.mem_of_getElem? (i := 23) rfl)) rfl
theorem zu_744 : Cond.instanceMethod ⟨"HandToHand", "night", "()I"⟩ ∈ zU := zu_t (zu_l4 (List.mem_of_getElem? (i := 24) rfl)) rfl
theorem zu_745 : Cond.selects "HandToHand" ⟨"HandToHand", "night", "()I"⟩ ⟨"HandToHand", "night", "()I"⟩ ∈ zU := zu_t (zu_l4 (List.mem_of_getElem? (i := 25) rfl)) rfl
theorem zu_746 : Cond.code ⟨"HandToHand", "night", "()I"⟩ prog_1_method_12_code 2 (Option.some .int) ∈ zU := zu_t (zu_l4 (List.mem_of_getElem? (i := 26) rfl)) rfl
theorem zu_747 : Cond.methodLink "HandToHand" 188 ⟨"HandToHand$Bench", "coatsInHand", "()I"⟩ ∈ zU := zu_t (zu_l4 (List.mem_of_getElem? (i := 27) rfl)) rfl
theorem zu_748 : Cond.instanceMethod ⟨"HandToHand$Bench", "coatsInHand", "()I"⟩ ∈ zU := zu_t (zu_l4 (List.mem_of_getElem? (i := 28) rfl)) rfl
theorem zu_749 : Cond.selects "HandToHand$Bench" ⟨"HandToHand$Bench", "coatsInHand", "()I"⟩ ⟨"HandToHand$Bench", "coatsInHand", "()I"⟩ ∈ zU := zu_t (zu_l4 (List.mem_of_getElem? (i := 29) rfl)) rfl
theorem zu_750 : Cond.code ⟨"HandToHand$Bench", "coatsInHand", "()I"⟩ prog_2_method_16_code 3 (Option.some .int) ∈ zU := zu_t (zu_l4 (List.mem_of_getElem? (i := 30) rfl)) rfl
theorem zu_751 : Cond.methodLink "HandToHand" 191 ⟨"HandToHand$Bench", "makeReady", "()V"⟩ ∈ zU := zu_t (zu_l4 (List.mem_of_getElem? (i := 31) rfl)) rfl
theorem zu_752 : Cond.methodLink "HandToHandLaw" 64 ⟨"HandToHand", "now", "(I)I"⟩ ∈ zU := zu_t (zu_l4 (List.mem_of_getElem? (i := 32) rfl)) rfl
theorem zu_753 : Cond.instanceMethod ⟨"HandToHand", "now", "(I)I"⟩ ∈ zU := zu_t (zu_l4 (List.mem_of_getElem? (i := 33) rfl)) rfl
theorem zu_754 : Cond.selects "HandToHand" ⟨"HandToHand", "now", "(I)I"⟩ ⟨"HandToHand", "now", "(I)I"⟩ ∈ zU := zu_t (zu_l4 (List.mem_of_getElem? (i := 34) rfl)) rfl
theorem zu_755 : Cond.code ⟨"HandToHand", "now", "(I)I"⟩ prog_1_method_13_code 2 (Option.some .int) ∈ zU := zu_t (zu_l4 (List.mem_of_getElem? (i := 35) rfl)) rfl
theorem zu_756 : Cond.methodLink "HandToHandLaw" 68 ⟨"HandToHand", "hand", "(II)I"⟩ ∈ zU := zu_t (zu_l4 (List.mem_of_getElem? (i := 36) rfl)) rfl
theorem zu_757 : Cond.instanceMethod ⟨"HandToHand", "hand", "(II)I"⟩ ∈ zU := zu_t (zu_l4 (List.mem_of_getElem? (i := 37) rfl)) rfl
theorem zu_758 : Cond.selects "HandToHand" ⟨"HandToHand", "hand", "(II)I"⟩ ⟨"HandToHand", "hand", "(II)I"⟩ ∈ zU := zu_t (zu_l4 (List.mem_of_getElem? (i := 38) rfl)) rfl
theorem zu_759 : Cond.code ⟨"HandToHand", "hand", "(II)I"⟩ prog_1_method_14_code 4 (Option.some .int) ∈ zU := zu_t (zu_l4 (List.mem_of_getElem? (i := 39) rfl)) rfl
theorem zu_760 : Cond.methodLink "HandToHandLaw" 72 ⟨"HandToHand", "learnt", "(II)I"⟩ ∈ zU := zu_t (zu_l4 (List.mem_of_getElem? (i := 40) rfl)) rfl
theorem zu_761 : Cond.instanceMethod ⟨"HandToHand", "learnt", "(II)I"⟩ ∈ zU := zu_t (zu_l4 (List.mem_of_getElem? (i := 41) rfl)) rfl
theorem zu_762 : Cond.selects "HandToHand" ⟨"HandToHand", "learnt", "(II)I"⟩ ⟨"HandToHand", "learnt", "(II)I"⟩ ∈ zU := zu_t (zu_l4 (List.mem_of_getElem? (i := 42) rfl)) rfl
theorem zu_763 : Cond.code ⟨"HandToHand", "learnt", "(II)I"⟩ prog_1_method_15_code 3 (Option.some .int) ∈ zU := zu_t (zu_l4 (List.mem_of_getElem? (i := 43) rfl)) rfl
theorem zu_764 : Cond.methodLink "HandToHandLaw" 76 ⟨"HandToHand", "takes", "(II)I"⟩ ∈ zU := zu_t (zu_l4 (List.mem_of_getElem? (i := 44) rfl)) rfl
theorem zu_765 : Cond.instanceMethod ⟨"HandToHand", "takes", "(II)I"⟩ ∈ zU := zu_t (zu_l4 (List.mem_of_getElem? (i := 45) rfl)) rfl
theorem zu_766 : Cond.selects "HandToHand" ⟨"HandToHand", "takes", "(II)I"⟩ ⟨"HandToHand", "takes", "(II)I"⟩ ∈ zU := zu_t (zu_l4 (List.mem_of_getElem? (i := 46) rfl)) rfl
theorem zu_767 : Cond.code ⟨"HandToHand", "takes", "(II)I"⟩ prog_1_method_16_code 3 (Option.some .int) ∈ zU := zu_t (zu_l4 (List.mem_of_getElem? (i := 47) rfl)) rfl
theorem zu_768 : Cond.methodLink "HandToHand" 224 ⟨"HandToHand$Told", "ticksOf", "(III)I"⟩ ∈ zU := zu_t (zu_l4 (List.mem_of_getElem? (i := 48) rfl)) rfl
theorem zu_769 : Cond.methodLink "HandToHandLaw" 80 ⟨"HandToHand", "keep", "(I)I"⟩ ∈ zU := zu_t (zu_l4 (List.mem_of_getElem? (i := 49) rfl)) rfl
theorem zu_770 : Cond.instanceMethod ⟨"HandToHand", "keep", "(I)I"⟩ ∈ zU := zu_t (zu_l4 (List.mem_of_getElem? (i := 50) rfl)) rfl
theorem zu_771 : Cond.selects "HandToHand" ⟨"HandToHand", "keep", "(I)I"⟩ ⟨"HandToHand", "keep", "(I)I"⟩ ∈ zU := zu_t (zu_l4 (List.mem_of_getElem? (i := 51) rfl)) rfl
theorem zu_772 : Cond.code ⟨"HandToHand", "keep", "(I)I"⟩ prog_1_method_17_code 3 (Option.some .int) ∈ zU := zu_t (zu_l4 (List.mem_of_getElem? (i := 52) rfl)) rfl
theorem zu_773 : Cond.methodLink "HandToHand" 228 ⟨"HandToHand$Bench", "copyFrom", "(LHandToHand$Bench;)V"⟩ ∈ zU := zu_t (zu_l4 (List.mem_of_getElem? (i := 53) rfl)) rfl
theorem zu_774 : Cond.instanceMethod ⟨"HandToHand$Bench", "copyFrom", "(LHandToHand$Bench;)V"⟩ ∈ zU := zu_t (zu_l4 (List.mem_of_getElem? (i := 54) rfl)) rfl
theorem zu_775 : Cond.selects "HandToHand$Bench" ⟨"HandToHand$Bench", "copyFrom", "(LHandToHand$Bench;)V"⟩ ⟨"HandToHand$Bench", "copyFrom", "(LHandToHand$Bench;)V"⟩ ∈ zU := zu_t (zu_l4 (List.mem_of_getElem? (i := 55) rfl)) rfl
theorem zu_776 : Cond.code ⟨"HandToHand$Bench", "copyFrom", "(LHandToHand$Bench;)V"⟩ prog_2_method_4_code 2 none ∈ zU := zu_t (zu_l4 (List.mem_of_getElem? (i := 56) rfl)) rfl
theorem zu_777 : Cond.methodLink "HandToHand$Bench" 60 ⟨"java/lang/System", "arraycopy", "(Ljava/lang/Object;ILjava/lang/Object;II)V"⟩ ∈ zU := zu_t (zu_l4 (List.mem_of_getElem? (i := 57) rfl)) rfl
theorem zu_778 : Cond.methodLink "HandToHandLaw" 84 ⟨"HandToHand", "back", "(I)I"⟩ ∈ zU := zu_t (zu_l4 (List.mem_of_getElem? (i := 58) rfl)) rfl
theorem zu_779 : Cond.instanceMethod ⟨"HandToHand", "back", "(I)I"⟩ ∈ zU := zu_t (zu_l4 (List.mem_of_getElem? (i := 59) rfl)) rfl
theorem zu_780 : Cond.selects "HandToHand" ⟨"HandToHand", "back", "(I)I"⟩ ⟨"HandToHand", "back", "(I)I"⟩ ∈ zU := zu_t (zu_l4 (List.mem_of_getElem? (i := 60) rfl)) rfl
theorem zu_781 : Cond.code ⟨"HandToHand", "back", "(I)I"⟩ prog_1_method_18_code 2 (Option.some .int) ∈ zU := zu_t (zu_l4 (List.mem_of_getElem? (i := 61) rfl)) rfl
theorem zu_782 : Cond.methodLink "HandToHandLaw" 88 ⟨"HandToHand", "run", "(II)I"⟩ ∈ zU := zu_t (zu_l4 (List.mem_of_getElem? (i := 62) rfl)) rfl
theorem zu_783 : Cond.instanceMethod ⟨"HandToHand", "run", "(II)I"⟩ ∈ zU := zu_t (zu_l4 (List.mem_of_getElem? (i := 63) rfl)) rfl
theorem zu_784 : Cond.selects "HandToHand" ⟨"HandToHand", "run", "(II)I"⟩ ⟨"HandToHand", "run", "(II)I"⟩ ∈ zU := zu_t (zu_l4 (List.mem_of_getElem? (i := 64) rfl)) rfl
theorem zu_785 : Cond.code ⟨"HandToHand", "run", "(II)I"⟩ prog_1_method_19_code 3 (Option.some .int) ∈ zU := zu_t (zu_l4 (List.mem_of_getElem? (i := 65) rfl)) rfl
theorem zu_786 : Cond.methodLink "HandToHand" 231 ⟨"HandToHand", "isRun", "(I)Z"⟩ ∈ zU := zu_t (zu_l4 (List.mem_of_getElem? (i := 66) rfl)) rfl
theorem zu_787 : Cond.static ⟨"HandToHand", "isRun", "(I)Z"⟩ ∈ zU := zu_t (zu_l4 (List.mem_of_getElem? (i := 67) rfl)) rfl
theorem zu_788 : Cond.code ⟨"HandToHand", "isRun", "(I)Z"⟩ prog_1_method_41_code 1 (Option.some .boolean) ∈ zU := zu_t (zu_l4 (List.mem_of_getElem? (i := 68) rfl)) rfl
theorem zu_789 : Cond.methodLink "HandToHand" 234 ⟨"HandToHand$Course", "runFor", "(I)V"⟩ ∈ zU := zu_t (zu_l4 (List.mem_of_getElem? (i := 69) rfl)) rfl
theorem zu_790 : Cond.instanceMethod ⟨"HandToHand$Course", "runFor", "(I)V"⟩ ∈ zU := zu_t (zu_l4 (List.mem_of_getElem? (i := 70) rfl)) rfl
theorem zu_791 : Cond.selects "HandToHand$Course" ⟨"HandToHand$Course", "runFor", "(I)V"⟩ ⟨"HandToHand$Course", "runFor", "(I)V"⟩ ∈ zU := zu_t (zu_l4 (List.mem_of_getElem? (i := 71) rfl)) rfl
theorem zu_792 : Cond.code ⟨"HandToHand$Course", "runFor", "(I)V"⟩ prog_3_method_2_code 4 none ∈ zU := zu_t (zu_l4 (List.mem_of_getElem? (i := 72) rfl)) rfl
theorem zu_793 : Cond.methodLink "HandToHand$Course" 38 ⟨"HandToHand$Bench", "clear", "()V"⟩ ∈ zU := zu_t (zu_l4 (List.mem_of_getElem? (i := 73) rfl)) rfl
theorem zu_794 : Cond.methodLink "HandToHand$Course" 41 ⟨"HandToHand$Bench", "doAll", "()V"⟩ ∈ zU := zu_t (zu_l4 (List.mem_of_getElem? (i := 74) rfl)) rfl
theorem zu_795 : Cond.constant "HandToHand$Course" 44 (1000000 : Int32) ∈ zU := zu_t (zu_l4 (List.mem_of_getElem? (i := 75) rfl)) rfl
theorem zu_796 : Cond.methodLink "HandToHand$Course" 48 ⟨"HandToHand$Bench", "leastLeft", "()I"⟩ ∈ zU := zu_t (zu_l4 (List.mem_of_getElem? (i := 76) rfl)) rfl
theorem zu_797 : Cond.methodLink "HandToHand$Course" 52 ⟨"HandToHand$Bench", "letPass", "(I)V"⟩ ∈ zU := zu_t (zu_l4 (List.mem_of_getElem? (i := 77) rfl)) rfl
theorem zu_798 : Cond.methodLink "HandToHand" 242 ⟨"HandToHand$Bench", "waitedByAll", "()I"⟩ ∈ zU := zu_t (zu_l4 (List.mem_of_getElem? (i := 78) rfl)) rfl
theorem zu_799 : Cond.instanceMethod ⟨"HandToHand$Bench", "waitedByAll", "()I"⟩ ∈ zU := zu_t (zu_l4 (List.mem_of_getElem? (i := 79) rfl)) rfl
theorem zu_800 : Cond.selects "HandToHand$Bench" ⟨"HandToHand$Bench", "waitedByAll", "()I"⟩ ⟨"HandToHand$Bench", "waitedByAll", "()I"⟩ ∈ zU := zu_t (zu_l4 (List.mem_of_getElem? (i := 80) rfl)) rfl
theorem zu_801 : Cond.code ⟨"HandToHand$Bench", "waitedByAll", "()I"⟩ prog_2_method_17_code 3 (Option.some .int) ∈ zU := zu_t (zu_l4 (List.mem_of_getElem? (i := 81) rfl)) rfl
theorem zu_802 : Cond.methodLink "HandToHand" 245 ⟨"HandToHand$Bench", "mostStoodAt", "()I"⟩ ∈ zU := zu_t (zu_l4 (List.mem_of_getElem? (i := 82) rfl)) rfl
theorem zu_803 : Cond.instanceMethod ⟨"HandToHand$Bench", "mostStoodAt", "()I"⟩ ∈ zU := zu_t (zu_l4 (List.mem_of_getElem? (i := 83) rfl)) rfl
theorem zu_804 : Cond.selects "HandToHand$Bench" ⟨"HandToHand$Bench", "mostStoodAt", "()I"⟩ ⟨"HandToHand$Bench", "mostStoodAt", "()I"⟩ ∈ zU := zu_t (zu_l4 (List.mem_of_getElem? (i := 84) rfl)) rfl
theorem zu_805 : Cond.code ⟨"HandToHand$Bench", "mostStoodAt", "()I"⟩ prog_2_method_18_code 3 (Option.some .int) ∈ zU := zu_t (zu_l4 (List.mem_of_getElem? (i := 85) rfl)) rfl
theorem zu_806 : Cond.methodLink "HandToHandLaw" 92 ⟨"HandToHand", "waits", "(II)I"⟩ ∈ zU := zu_t (zu_l4 (List.mem_of_getElem? (i := 86) rfl)) rfl
theorem zu_807 : Cond.instanceMethod ⟨"HandToHand", "waits", "(II)I"⟩ ∈ zU := zu_t (zu_l4 (List.mem_of_getElem? (i := 87) rfl)) rfl
theorem zu_808 : Cond.selects "HandToHand" ⟨"HandToHand", "waits", "(II)I"⟩ ⟨"HandToHand", "waits", "(II)I"⟩ ∈ zU := zu_t (zu_l4 (List.mem_of_getElem? (i := 88) rfl)) rfl
theorem zu_809 : Cond.code ⟨"HandToHand", "waits", "(II)I"⟩ prog_1_method_20_code 3 (Option.some .int) ∈ zU := zu_t (zu_l4 (List.mem_of_getElem? (i := 89) rfl)) rfl
theorem zu_810 : Cond.methodLink "HandToHandLaw" 96 ⟨"HandToHand", "over", "(III)I"⟩ ∈ zU := zu_t (zu_l4 (List.mem_of_getElem? (i := 90) rfl)) rfl
theorem zu_811 : Cond.instanceMethod ⟨"HandToHand", "over", "(III)I"⟩ ∈ zU := zu_t (zu_l4 (List.mem_of_getElem? (i := 91) rfl)) rfl
theorem zu_812 : Cond.selects "HandToHand" ⟨"HandToHand", "over", "(III)I"⟩ ⟨"HandToHand", "over", "(III)I"⟩ ∈ zU := zu_t (zu_l4 (List.mem_of_getElem? (i := 92) rfl)) rfl
theorem zu_813 : Cond.code ⟨"HandToHand", "over", "(III)I"⟩ prog_1_method_21_code 4 (Option.some .int) ∈ zU := zu_t (zu_l4 (List.mem_of_getElem? (i := 93) rfl)) rfl
theorem zu_814 : Cond.methodLink "HandToHand" 256 ⟨"HandToHand$Handings", "valueOf", "(II)I"⟩ ∈ zU := zu_t (zu_l4 (List.mem_of_getElem? (i := 94) rfl)) rfl
theorem zu_815 : Cond.instanceMethod ⟨"HandToHand$Handings", "valueOf", "(II)I"⟩ ∈ zU := zu_t (zu_l4 (List.mem_of_getElem? (i := 95) rfl)) rfl
theorem zu_816 : Cond.selects "HandToHand$Handings" ⟨"HandToHand$Handings", "valueOf", "(II)I"⟩ ⟨"HandToHand$Handings", "valueOf", "(II)I"⟩ ∈ zU := zu_t (zu_l4 (List.mem_of_getElem? (i := 96) rfl)) rfl
theorem zu_817 : Cond.code ⟨"HandToHand$Handings", "valueOf", "(II)I"⟩ prog_4_method_3_code 3 (Option.some .int) ∈ zU := zu_t (zu_l4 (List.mem_of_getElem? (i := 97) rfl)) rfl
theorem zu_818 : Cond.methodLink "HandToHandLaw" 100 ⟨"HandToHand", "judge", "(IIIII)I"⟩ ∈ zU := zu_t (zu_l4 (List.mem_of_getElem? (i := 98) rfl)) rfl
theorem zu_819 : Cond.instanceMethod ⟨"HandToHand", "judge", "(IIIII)I"⟩ ∈ zU := zu_t (zu_l4 (List.mem_of_getElem? (i := 99) rfl)) rfl
theorem zu_820 : Cond.selects "HandToHand" ⟨"HandToHand", "judge", "(IIIII)I"⟩ ⟨"HandToHand", "judge", "(IIIII)I"⟩ ∈ zU := zu_t (zu_l4 (List.mem_of_getElem? (i := 100) rfl)) rfl
theorem zu_821 : Cond.code ⟨"HandToHand", "judge", "(IIIII)I"⟩ prog_1_method_22_code 7 (Option.some .int) ∈ zU := zu_t (zu_l4 (List.mem_of_getElem? (i := 101) rfl)) rfl
theorem zu_822 : Cond.methodLink "HandToHandLaw" 105 ⟨"HandToHand", "settles", "(I)I"⟩ ∈ zU := zu_t (zu_l4 (List.mem_of_getElem? (i := 102) rfl)) rfl
theorem zu_823 : Cond.instanceMethod ⟨"HandToHand", "settles", "(I)I"⟩ ∈ zU := zu_t (zu_l4 (List.mem_of_getElem? (i := 103) rfl)) rfl
theorem zu_824 : Cond.selects "HandToHand" ⟨"HandToHand", "settles", "(I)I"⟩ ⟨"HandToHand", "settles", "(I)I"⟩ ∈ zU := zu_t (zu_l4 (List.mem_of_getElem? (i := 104) rfl)) rfl
theorem zu_825 : Cond.code ⟨"HandToHand", "settles", "(I)I"⟩ prog_1_method_23_code 2 (Option.some .int) ∈ zU := zu_t (zu_l4 (List.mem_of_getElem? (i := 105) rfl)) rfl
theorem zu_826 : Cond.methodLink "HandToHand" 259 ⟨"HandToHand", "findRing", "()V"⟩ ∈ zU := zu_t (zu_l4 (List.mem_of_getElem? (i := 106) rfl)) rfl
theorem zu_828 : Cond.instanceMethod ⟨"HandToHand", "findRing", "()V"⟩ ∈ zU := zu_t (zu_l4 (List.mem_of_getElem? (i := 108) rfl)) rfl
theorem zu_829 : Cond.code ⟨"HandToHand", "findRing", "()V"⟩ prog_1_method_49_code 1 none ∈ zU := zu_t (zu_l4 (List.mem_of_getElem? (i := 109) rfl)) rfl
theorem zu_830 : Cond.methodLink "HandToHand" 333 ⟨"HandToHand$Settling", "settle", "(LHandToHand$Told;LHandToHand$Ring;)V"⟩ ∈ zU := zu_t (zu_l4 (List.mem_of_getElem? (i := 110) rfl)) rfl
theorem zu_831 : Cond.instanceMethod ⟨"HandToHand$Settling", "settle", "(LHandToHand$Told;LHandToHand$Ring;)V"⟩ ∈ zU := zu_t (zu_l4 (List.mem_of_getElem? (i := 111) rfl)) rfl
theorem zu_832 : Cond.selects "HandToHand$Settling" ⟨"HandToHand$Settling", "settle", "(LHandToHand$Told;LHandToHand$Ring;)V"⟩ ⟨"HandToHand$Settling", "settle", "(LHandToHand$Told;LHandToHand$Ring;)V"⟩ ∈ zU := zu_t (zu_l4 (List.mem_of_getElem? (i := 112) rfl)) rfl
theorem zu_833 : Cond.code ⟨"HandToHand$Settling", "settle", "(LHandToHand$Told;LHandToHand$Ring;)V"⟩ prog_9_method_2_code 7 none ∈ zU := zu_t (zu_l4 (List.mem_of_getElem? (i := 113) rfl)) rfl
theorem zu_834 : Cond.methodLink "HandToHand$Settling" 30 ⟨"HandToHand$Ring", "lose", "()V"⟩ ∈ zU := zu_t (zu_l4 (List.mem_of_getElem? (i := 114) rfl)) rfl
theorem zu_835 : Cond.instanceMethod ⟨"HandToHand$Ring", "lose", "()V"⟩ ∈ zU := zu_t (zu_l4 (List.mem_of_getElem? (i := 115) rfl)) rfl
theorem zu_836 : Cond.selects "HandToHand$Ring" ⟨"HandToHand$Ring", "lose", "()V"⟩ ⟨"HandToHand$Ring", "lose", "()V"⟩ ∈ zU := zu_t (zu_l4 (List.mem_of_getElem? (i := 116) rfl)) rfl
theorem zu_837 : Cond.code ⟨"HandToHand$Ring", "lose", "()V"⟩ prog_8_method_2_code 1 none ∈ zU := zu_t (zu_l4 (List.mem_of_getElem? (i := 117) rfl)) rfl
theorem zu_838 : Cond.methodLink "HandToHand$Settling" 43 ⟨"HandToHand$Bench", "clear", "()V"⟩ ∈ zU := zu_t (zu_l4 (List.mem_of_getElem? (i := 118) rfl)) rfl
theorem zu_839 : Cond.methodLink "HandToHand$Settling" 46 ⟨"HandToHand$Bench", "doAll", "()V"⟩ ∈ zU := zu_t (zu_l4 (List.mem_of_getElem? (i := 119) rfl)) rfl
theorem zu_840 : Cond.methodLink "HandToHand$Settling" 49 ⟨"HandToHand$Bench", "leastLeft", "()I"⟩ ∈ zU := zu_t (zu_l4 (List.mem_of_getElem? (i := 120) rfl)) rfl
theorem zu_841 : Cond.constant "HandToHand$Settling" 53 (1000000 : Int32) ∈ zU := zu_t (zu_l4 (List.mem_of_getElem? (i := 121) rfl)) rfl
theorem zu_842 : Cond.methodLink "HandToHand$Settling" 61 ⟨"HandToHand$Bench", "letPass", "(I)V"⟩ ∈ zU := zu_t (zu_l4 (List.mem_of_getElem? (i := 122) rfl)) rfl
theorem zu_843 : Cond.methodLink "HandToHand$Settling" 65 ⟨"HandToHand$Settling", "writeDown", "(LHandToHand$Told;)V"⟩ ∈ zU := zu_t (zu_l4 (List.mem_of_getElem? (i := 123) rfl)) rfl
theorem zu_845 : Cond.instanceMethod ⟨"HandToHand$Settling", "writeDown", "(LHandToHand$Told;)V"⟩ ∈ zU := zu_t (zu_l4 (List.mem_of_getElem? (i := 125) rfl)) rfl
theorem zu_846 : Cond.code ⟨"HandToHand$Settling", "writeDown", "(LHandToHand$Told;)V"⟩ prog_9_method_3_code 6 none ∈ zU := zu_t (zu_l4 (List.mem_of_getElem? (i := 126) rfl)) rfl
theorem zu_847 : Cond.methodLink "HandToHand$Settling" 87 ⟨"HandToHand$Bench", "inOneNumber", "(I)I"⟩ ∈ zU := zu_t (zu_l4 (List.mem_of_getElem? (i := 127) rfl)) rfl
theorem zu_848 : Cond.instanceMethod ⟨"HandToHand$Bench", "inOneNumber", "(I)I"⟩ ∈ zU := zu_t (zu_l4 (List.mem_of_getElem? (i := 128) rfl)) rfl
theorem zu_849 : Cond.selects "HandToHand$Bench" ⟨"HandToHand$Bench", "inOneNumber", "(I)I"⟩ ⟨"HandToHand$Bench", "inOneNumber", "(I)I"⟩ ∈ zU := zu_t (zu_l4 (List.mem_of_getElem? (i := 129) rfl)) rfl
theorem zu_850 : Cond.code ⟨"HandToHand$Bench", "inOneNumber", "(I)I"⟩ prog_2_method_15_code 3 (Option.some .int) ∈ zU := zu_t (zu_l4 (List.mem_of_getElem? (i := 130) rfl)) rfl
theorem zu_851 : Cond.methodLink "HandToHand$Settling" 97 ⟨"HandToHand$Told", "learnedThatCounts", "(III)I"⟩ ∈ zU := zu_t (zu_l4 (List.mem_of_getElem? (i := 131) rfl)) rfl
theorem zu_852 : Cond.instanceMethod ⟨"HandToHand$Told", "learnedThatCounts", "(III)I"⟩ ∈ zU := zu_t (zu_l4 (List.mem_of_getElem? (i := 132) rfl)) rfl
theorem zu_853 : Cond.selects "HandToHand$Told" ⟨"HandToHand$Told", "learnedThatCounts", "(III)I"⟩ ⟨"HandToHand$Told", "learnedThatCounts", "(III)I"⟩ ∈ zU := zu_t (zu_l4 (List.mem_of_getElem? (i := 133) rfl)) rfl
theorem zu_854 : Cond.code ⟨"HandToHand$Told", "learnedThatCounts", "(III)I"⟩ prog_11_method_15_code 5 (Option.some .int) ∈ zU := zu_t (zu_l4 (List.mem_of_getElem? (i := 134) rfl)) rfl
theorem zu_855 : Cond.methodLink "HandToHand$Told" 62 ⟨"HandToHand$Told", "paceOf", "(II)I"⟩ ∈ zU := zu_t (zu_l4 (List.mem_of_getElem? (i := 135) rfl)) rfl
theorem zu_856 : Cond.methodLink "HandToHand$Settling" 101 ⟨"HandToHand$Settling", "clearOthers", "(ILHandToHand$Told;)V"⟩ ∈ zU := zu_t (zu_l4 (List.mem_of_getElem? (i := 136) rfl)) rfl
theorem zu_858 : Cond.instanceMethod ⟨"HandToHand$Settling", "clearOthers", "(ILHandToHand$Told;)V"⟩ ∈ zU := zu_t (zu_l4 (List.mem_of_getElem? (i := 138) rfl)) rfl
theorem zu_859 : Cond.code ⟨"HandToHand$Settling", "clearOthers", "(ILHandToHand$Told;)V"⟩ prog_9_method_4_code 5 none ∈ zU := zu_t (zu_l4 (List.mem_of_getElem? (i := 139) rfl)) rfl
theorem zu_860 : Cond.methodLink "HandToHand$Settling" 69 ⟨"HandToHand$Settling", "earlierAlike", "()I"⟩ ∈ zU := zu_t (zu_l4 (List.mem_of_getElem? (i := 140) rfl)) rfl
theorem zu_862 : Cond.instanceMethod ⟨"HandToHand$Settling", "earlierAlike", "()I"⟩ ∈ zU := zu_t (zu_l4 (List.mem_of_getElem? (i := 142) rfl)) rfl
theorem zu_863 : Cond.code ⟨"HandToHand$Settling", "earlierAlike", "()I"⟩ prog_9_method_5_code 4 (Option.some .int) ∈ zU := zu_t (zu_l4 (List.mem_of_getElem? (i := 143) rfl)) rfl
theorem zu_864 : Cond.methodLink "HandToHand$Settling" 75 ⟨"HandToHand$Ring", "close", "(IIII)V"⟩ ∈ zU := zu_t (zu_l4 (List.mem_of_getElem? (i := 144) rfl)) rfl
theorem zu_865 : Cond.instanceMethod ⟨"HandToHand$Ring", "close", "(IIII)V"⟩ ∈ zU := zu_t (zu_l4 (List.mem_of_getElem? (i := 145) rfl)) rfl
theorem zu_866 : Cond.selects "HandToHand$Ring" ⟨"HandToHand$Ring", "close", "(IIII)V"⟩ ⟨"HandToHand$Ring", "close", "(IIII)V"⟩ ∈ zU := zu_t (zu_l4 (List.mem_of_getElem? (i := 146) rfl)) rfl
theorem zu_867 : Cond.code ⟨"HandToHand$Ring", "close", "(IIII)V"⟩ prog_8_method_3_code 6 none ∈ zU := zu_t (zu_l4 (List.mem_of_getElem? (i := 147) rfl)) rfl
theorem zu_869 : Cond.static ⟨"HandToHand", "commonDivisor", "(JJ)J"⟩ ∈ zU := zu_t (zu_l4 (List.mem_of_getElem? (i := 149) rfl)) rfl
theorem zu_870 : Cond.code ⟨"HandToHand", "commonDivisor", "(JJ)J"⟩ prog_1_method_47_code 7 (Option.some .long) ∈ zU := zu_t (zu_l4 (List.mem_of_getElem? (i := 150) rfl)) rfl
theorem zu_871 : Cond.constant "HandToHand" 370 (1000000 : Int32) ∈ zU := zu_t (zu_l4 (List.mem_of_getElem? (i := 151) rfl)) rfl
theorem zu_872 : Cond.methodLink "HandToHandLaw" 109 ⟨"HandToHand", "where", "(II)I"⟩ ∈ zU := zu_t (zu_l4 (List.mem_of_getElem? (i := 152) rfl)) rfl
theorem zu_873 : Cond.instanceMethod ⟨"HandToHand", "where", "(II)I"⟩ ∈ zU := zu_t (zu_l4 (List.mem_of_getElem? (i := 153) rfl)) rfl
theorem zu_874 : Cond.selects "HandToHand" ⟨"HandToHand", "where", "(II)I"⟩ ⟨"HandToHand", "where", "(II)I"⟩ ∈ zU := zu_t (zu_l4 (List.mem_of_getElem? (i := 154) rfl)) rfl
theorem zu_875 : Cond.code ⟨"HandToHand", "where", "(II)I"⟩ prog_1_method_24_code 3 (Option.some .int) ∈ zU := zu_t (zu_l4 (List.mem_of_getElem? (i := 155) rfl)) rfl
theorem zu_876 : Cond.methodLink "HandToHand" 274 ⟨"HandToHand$Handings", "placesOf", "(ILHandToHand$Ring;I)I"⟩ ∈ zU := zu_t (zu_l4 (List.mem_of_getElem? (i := 156) rfl)) rfl
theorem zu_877 : Cond.instanceMethod ⟨"HandToHand$Handings", "placesOf", "(ILHandToHand$Ring;I)I"⟩ ∈ zU := zu_t (zu_l4 (List.mem_of_getElem? (i := 157) rfl)) rfl
theorem zu_878 : Cond.selects "HandToHand$Handings" ⟨"HandToHand$Handings", "placesOf", "(ILHandToHand$Ring;I)I"⟩ ⟨"HandToHand$Handings", "placesOf", "(ILHandToHand$Ring;I)I"⟩ ∈ zU := zu_t (zu_l4 (List.mem_of_getElem? (i := 158) rfl)) rfl
theorem zu_879 : Cond.code ⟨"HandToHand$Handings", "placesOf", "(ILHandToHand$Ring;I)I"⟩ prog_4_method_4_code 10 (Option.some .int) ∈ zU := zu_t (zu_l4 (List.mem_of_getElem? (i := 159) rfl)) rfl
theorem zu_880 : Cond.methodLink "HandToHand$Handings" 19 ⟨"HandToHand$Handings", "valueOf", "(II)I"⟩ ∈ zU := zu_t (zu_l4 (List.mem_of_getElem? (i := 160) rfl)) rfl
theorem zu_881 : Cond.methodLink "HandToHandLaw" 113 ⟨"HandToHand", "makes", "(I)I"⟩ ∈ zU := zu_t (zu_l4 (List.mem_of_getElem? (i := 161) rfl)) rfl
theorem zu_882 : Cond.instanceMethod ⟨"HandToHand", "makes", "(I)I"⟩ ∈ zU := zu_t (zu_l4 (List.mem_of_getElem? (i := 162) rfl)) rfl
theorem zu_883 : Cond.selects "HandToHand" ⟨"HandToHand", "makes", "(I)I"⟩ ⟨"HandToHand", "makes", "(I)I"⟩ ∈ zU := zu_t (zu_l4 (List.mem_of_getElem? (i := 163) rfl)) rfl
theorem zu_884 : Cond.code ⟨"HandToHand", "makes", "(I)I"⟩ prog_1_method_25_code 2 (Option.some .int) ∈ zU := zu_t (zu_l4 (List.mem_of_getElem? (i := 164) rfl)) rfl
theorem zu_885 : Cond.methodLink "HandToHand" 278 ⟨"HandToHand", "isHalf", "(I)Z"⟩ ∈ zU := zu_t (zu_l4 (List.mem_of_getElem? (i := 165) rfl)) rfl
theorem zu_886 : Cond.static ⟨"HandToHand", "isHalf", "(I)Z"⟩ ∈ zU := zu_t (zu_l4 (List.mem_of_getElem? (i := 166) rfl)) rfl
theorem zu_887 : Cond.code ⟨"HandToHand", "isHalf", "(I)Z"⟩ prog_1_method_42_code 1 (Option.some .boolean) ∈ zU := zu_t (zu_l4 (List.mem_of_getElem? (i := 167) rfl)) rfl
theorem zu_888 : Cond.methodLink "HandToHandLaw" 117 ⟨"HandToHand", "could", "(I)J"⟩ ∈ zU := zu_t (zu_l4 (List.mem_of_getElem? (i := 168) rfl)) rfl
theorem zu_889 : Cond.instanceMethod ⟨"HandToHand", "could", "(I)J"⟩ ∈ zU := zu_t (zu_l4 (List.mem_of_getElem? (i := 169) rfl)) rfl
theorem zu_890 : Cond.selects "HandToHand" ⟨"HandToHand", "could", "(I)J"⟩ ⟨"HandToHand", "could", "(I)J"⟩ ∈ zU := zu_t (zu_l4 (List.mem_of_getElem? (i := 170) rfl)) rfl
theorem zu_891 : Cond.code ⟨"HandToHand", "could", "(I)J"⟩ prog_1_method_26_code 11 (Option.some .long) ∈ zU := zu_t (zu_l4 (List.mem_of_getElem? (i := 171) rfl)) rfl
theorem zu_892 : Cond.constantLong "HandToHand" 287 (-1 : Int64) ∈ zU := zu_t (zu_l4 (List.mem_of_getElem? (i := 172) rfl)) rfl
theorem zu_893 : Cond.methodLink "HandToHand" 289 ⟨"HandToHand$Told", "ticksAlone", "(I)J"⟩ ∈ zU := zu_t (zu_l4 (List.mem_of_getElem? (i := 173) rfl)) rfl
theorem zu_894 : Cond.instanceMethod ⟨"HandToHand$Told", "ticksAlone", "(I)J"⟩ ∈ zU := zu_t (zu_l4 (List.mem_of_getElem? (i := 174) rfl)) rfl
theorem zu_895 : Cond.selects "HandToHand$Told" ⟨"HandToHand$Told", "ticksAlone", "(I)J"⟩ ⟨"HandToHand$Told", "ticksAlone", "(I)J"⟩ ∈ zU := zu_t (zu_l4 (List.mem_of_getElem? (i := 175) rfl)) rfl
theorem zu_896 : Cond.code ⟨"HandToHand$Told", "ticksAlone", "(I)J"⟩ prog_11_method_16_code 6 (Option.some .long) ∈ zU := zu_t (zu_l4 (List.mem_of_getElem? (i := 176) rfl)) rfl
theorem zu_897 : Cond.methodLink "HandToHand$Told" 66 ⟨"HandToHand$Told", "unitsOf", "(II)I"⟩ ∈ zU := zu_t (zu_l4 (List.mem_of_getElem? (i := 177) rfl)) rfl
theorem zu_898 : Cond.methodLink "HandToHand" 293 ⟨"HandToHand", "commonDivisor", "(JJ)J"⟩ ∈ zU := zu_t (zu_l4 (List.mem_of_getElem? (i := 178) rfl)) rfl
theorem zu_899 : Cond.methodLink "HandToHandLaw" 122 ⟨"HandToHand", "order", "(II)I"⟩ ∈ zU := zu_t (zu_l4 (List.mem_of_getElem? (i := 179) rfl)) rfl
theorem zu_900 : Cond.instanceMethod ⟨"HandToHand", "order", "(II)I"⟩ ∈ zU := zu_t (zu_l4 (List.mem_of_getElem? (i := 180) rfl)) rfl
theorem zu_901 : Cond.selects "HandToHand" ⟨"HandToHand", "order", "(II)I"⟩ ⟨"HandToHand", "order", "(II)I"⟩ ∈ zU := zu_t (zu_l4 (List.mem_of_getElem? (i := 181) rfl)) rfl
theorem zu_902 : Cond.code ⟨"HandToHand", "order", "(II)I"⟩ prog_1_method_27_code 3 (Option.some .int) ∈ zU := zu_t (zu_l4 (List.mem_of_getElem? (i := 182) rfl)) rfl
theorem zu_903 : Cond.methodLink "HandToHand" 297 ⟨"HandToHand", "isOrder", "(I)Z"⟩ ∈ zU := zu_t (zu_l4 (List.mem_of_getElem? (i := 183) rfl)) rfl
theorem zu_905 : Cond.instanceMethod ⟨"HandToHand", "isOrder", "(I)Z"⟩ ∈ zU := zu_t (zu_l4 (List.mem_of_getElem? (i := 185) rfl)) rfl
theorem zu_906 : Cond.code ⟨"HandToHand", "isOrder", "(I)Z"⟩ prog_1_method_39_code 2 (Option.some .boolean) ∈ zU := zu_t (zu_l4 (List.mem_of_getElem? (i := 186) rfl)) rfl
theorem zu_907 : Cond.methodLink "HandToHand" 309 ⟨"HandToHand", "numberOfOrders", "(I)I"⟩ ∈ zU := zu_t (zu_l4 (List.mem_of_getElem? (i := 187) rfl)) rfl
theorem zu_908 : Cond.static ⟨"HandToHand", "numberOfOrders", "(I)I"⟩ ∈ zU := zu_t (zu_l4 (List.mem_of_getElem? (i := 188) rfl)) rfl
theorem zu_909 : Cond.code ⟨"HandToHand", "numberOfOrders", "(I)I"⟩ prog_1_method_45_code 3 (Option.some .int) ∈ zU := zu_t (zu_l4 (List.mem_of_getElem? (i := 189) rfl)) rfl
theorem zu_910 : Cond.methodLink "HandToHand" 300 ⟨"HandToHand", "findOrder", "(I)V"⟩ ∈ zU := zu_t (zu_l4 (List.mem_of_getElem? (i := 190) rfl)) rfl
theorem zu_912 : Cond.instanceMethod ⟨"HandToHand", "findOrder", "(I)V"⟩ ∈ zU := zu_t (zu_l4 (List.mem_of_getElem? (i := 192) rfl)) rfl
theorem zu_913 : Cond.code ⟨"HandToHand", "findOrder", "(I)V"⟩ prog_1_method_50_code 3 none ∈ zU := zu_t (zu_l4 (List.mem_of_getElem? (i := 193) rfl)) rfl
theorem zu_914 : Cond.methodLink "HandToHand" 317 ⟨"HandToHand$Orders", "standAs", "(II)V"⟩ ∈ zU := zu_t (zu_l4 (List.mem_of_getElem? (i := 194) rfl)) rfl
theorem zu_915 : Cond.instanceMethod ⟨"HandToHand$Orders", "standAs", "(II)V"⟩ ∈ zU := zu_t (zu_l4 (List.mem_of_getElem? (i := 195) rfl)) rfl
theorem zu_916 : Cond.selects "HandToHand$Orders" ⟨"HandToHand$Orders", "standAs", "(II)V"⟩ ⟨"HandToHand$Orders", "standAs", "(II)V"⟩ ∈ zU := zu_t (zu_l4 (List.mem_of_getElem? (i := 196) rfl)) rfl
theorem zu_917 : Cond.code ⟨"HandToHand$Orders", "standAs", "(II)V"⟩ prog_5_method_3_code 9 none ∈ zU := zu_t (zu_l4 (List.mem_of_getElem? (i := 197) rfl)) rfl
theorem zu_919 : Cond.methodLink "HandToHand$Orders" 25 ⟨"HandToHand$Orders", "unusedHand", "(III)I"⟩ ∈ zU := zu_t (zu_l4 (List.mem_of_getElem? (i := 199) rfl)) rfl
theorem zu_921 : Cond.instanceMethod ⟨"HandToHand$Orders", "unusedHand", "(III)I"⟩ ∈ zU := zu_t (zu_l4 (List.mem_of_getElem? (i := 201) rfl)) rfl
theorem zu_922 : Cond.code ⟨"HandToHand$Orders", "unusedHand", "(III)I"⟩ prog_5_method_4_code 6 (Option.some .int) ∈ zU := zu_t (zu_l4 (List.mem_of_getElem? (i := 202) rfl)) rfl
theorem zu_923 : Cond.methodLink "HandToHand" 379 ⟨"HandToHand$Told", "copyPacesOf", "(LHandToHand$Told;II)V"⟩ ∈ zU := zu_t (zu_l4 (List.mem_of_getElem? (i := 203) rfl)) rfl
theorem zu_924 : Cond.instanceMethod ⟨"HandToHand$Told", "copyPacesOf", "(LHandToHand$Told;II)V"⟩ ∈ zU := zu_t (zu_l4 (List.mem_of_getElem? (i := 204) rfl)) rfl
theorem zu_925 : Cond.selects "HandToHand$Told" ⟨"HandToHand$Told", "copyPacesOf", "(LHandToHand$Told;II)V"⟩ ⟨"HandToHand$Told", "copyPacesOf", "(LHandToHand$Told;II)V"⟩ ∈ zU := zu_t (zu_l4 (List.mem_of_getElem? (i := 205) rfl)) rfl
theorem zu_926 : Cond.code ⟨"HandToHand$Told", "copyPacesOf", "(LHandToHand$Told;II)V"⟩ prog_11_method_5_code 4 none ∈ zU := zu_t (zu_l4 (List.mem_of_getElem? (i := 206) rfl)) rfl
theorem zu_927 : Cond.methodLink "HandToHandLaw" 126 ⟨"HandToHand", "best", "(I)I"⟩ ∈ zU := zu_t (zu_l4 (List.mem_of_getElem? (i := 207) rfl)) rfl
theorem zu_928 : Cond.instanceMethod ⟨"HandToHand", "best", "(I)I"⟩ ∈ zU := zu_t (zu_l4 (List.mem_of_getElem? (i := 208) rfl)) rfl
theorem zu_929 : Cond.selects "HandToHand" ⟨"HandToHand", "best", "(I)I"⟩ ⟨"HandToHand", "best", "(I)I"⟩ ∈ zU := zu_t (zu_l4 (List.mem_of_getElem? (i := 209) rfl)) rfl
theorem zu_930 : Cond.code ⟨"HandToHand", "best", "(I)I"⟩ prog_1_method_28_code 6 (Option.some .int) ∈ zU := zu_t (zu_l4 (List.mem_of_getElem? (i := 210) rfl)) rfl
theorem zu_931 : Cond.methodLink "HandToHand" 313 ⟨"HandToHand", "isMore", "(JJJJ)Z"⟩ ∈ zU := zu_t (zu_l4 (List.mem_of_getElem? (i := 211) rfl)) rfl
theorem zu_932 : Cond.static ⟨"HandToHand", "isMore", "(JJJJ)Z"⟩ ∈ zU := zu_t (zu_l4 (List.mem_of_getElem? (i := 212) rfl)) rfl
theorem zu_933 : Cond.code ⟨"HandToHand", "isMore", "(JJJJ)Z"⟩ prog_1_method_46_code 8 (Option.some .boolean) ∈ zU := zu_t (zu_l4 (List.mem_of_getElem? (i := 213) rfl)) rfl
theorem zu_934 : Cond.methodLink "HandToHandLaw" 130 ⟨"HandToHand", "stands", "(II)I"⟩ ∈ zU := zu_t (zu_l4 (List.mem_of_getElem? (i := 214) rfl)) rfl
theorem zu_935 : Cond.instanceMethod ⟨"HandToHand", "stands", "(II)I"⟩ ∈ zU := zu_t (zu_l4 (List.mem_of_getElem? (i := 215) rfl)) rfl
theorem zu_936 : Cond.selects "HandToHand" ⟨"HandToHand", "stands", "(II)I"⟩ ⟨"HandToHand", "stands", "(II)I"⟩ ∈ zU := zu_t (zu_l4 (List.mem_of_getElem? (i := 216) rfl)) rfl
theorem zu_937 : Cond.code ⟨"HandToHand", "stands", "(II)I"⟩ prog_1_method_29_code 3 (Option.some .int) ∈ zU := zu_t (zu_l4 (List.mem_of_getElem? (i := 217) rfl)) rfl
theorem zu_938 : Cond.methodLink "HandToHandLaw" 134 ⟨"HandToHand", "parts", "(I)I"⟩ ∈ zU := zu_t (zu_l4 (List.mem_of_getElem? (i := 218) rfl)) rfl
theorem zu_939 : Cond.instanceMethod ⟨"HandToHand", "parts", "(I)I"⟩ ∈ zU := zu_t (zu_l4 (List.mem_of_getElem? (i := 219) rfl)) rfl
theorem zu_940 : Cond.selects "HandToHand" ⟨"HandToHand", "parts", "(I)I"⟩ ⟨"HandToHand", "parts", "(I)I"⟩ ∈ zU := zu_t (zu_l4 (List.mem_of_getElem? (i := 220) rfl)) rfl
theorem zu_941 : Cond.code ⟨"HandToHand", "parts", "(I)I"⟩ prog_1_method_30_code 3 (Option.some .int) ∈ zU := zu_t (zu_l4 (List.mem_of_getElem? (i := 221) rfl)) rfl
theorem zu_942 : Cond.methodLink "HandToHand" 324 ⟨"HandToHand", "findParts", "()V"⟩ ∈ zU := zu_t (zu_l4 (List.mem_of_getElem? (i := 222) rfl)) rfl
theorem zu_944 : Cond.instanceMethod ⟨"HandToHand", "findParts", "()V"⟩ ∈ zU := zu_t (zu_l4 (List.mem_of_getElem? (i := 224) rfl)) rfl
theorem zu_945 : Cond.code ⟨"HandToHand", "findParts", "()V"⟩ prog_1_method_51_code 3 none ∈ zU := zu_t (zu_l4 (List.mem_of_getElem? (i := 225) rfl)) rfl
theorem zu_946 : Cond.methodLink "HandToHand" 383 ⟨"HandToHand$Parts", "takeFrom", "(LHandToHand$Told;LHandToHand$Ring;)V"⟩ ∈ zU := zu_t (zu_l4 (List.mem_of_getElem? (i := 226) rfl)) rfl
theorem zu_947 : Cond.instanceMethod ⟨"HandToHand$Parts", "takeFrom", "(LHandToHand$Told;LHandToHand$Ring;)V"⟩ ∈ zU := zu_t (zu_l4 (List.mem_of_getElem? (i := 227) rfl)) rfl
theorem zu_948 : Cond.selects "HandToHand$Parts" ⟨"HandToHand$Parts", "takeFrom", "(LHandToHand$Told;LHandToHand$Ring;)V"⟩ ⟨"HandToHand$Parts", "takeFrom", "(LHandToHand$Told;LHandToHand$Ring;)V"⟩ ∈ zU := zu_t (zu_l4 (List.mem_of_getElem? (i := 228) rfl)) rfl
theorem zu_949 : Cond.code ⟨"HandToHand$Parts", "takeFrom", "(LHandToHand$Told;LHandToHand$Ring;)V"⟩ prog_6_method_2_code 3 none ∈ zU := zu_t (zu_l4 (List.mem_of_getElem? (i := 229) rfl)) rfl
theorem zu_950 : Cond.methodLink "HandToHand$Parts" 29 ⟨"java/lang/System", "arraycopy", "(Ljava/lang/Object;ILjava/lang/Object;II)V"⟩ ∈ zU := zu_t (zu_l4 (List.mem_of_getElem? (i := 230) rfl)) rfl
theorem zu_951 : Cond.methodLink "HandToHand" 386 ⟨"HandToHand$Told", "moveEnds", "()Z"⟩ ∈ zU := zu_t (zu_l4 (List.mem_of_getElem? (i := 231) rfl)) rfl
theorem zu_952 : Cond.instanceMethod ⟨"HandToHand$Told", "moveEnds", "()Z"⟩ ∈ zU := zu_t (zu_l4 (List.mem_of_getElem? (i := 232) rfl)) rfl
theorem zu_953 : Cond.selects "HandToHand$Told" ⟨"HandToHand$Told", "moveEnds", "()Z"⟩ ⟨"HandToHand$Told", "moveEnds", "()Z"⟩ ∈ zU := zu_t (zu_l4 (List.mem_of_getElem? (i := 233) rfl)) rfl
theorem zu_954 : Cond.code ⟨"HandToHand$Told", "moveEnds", "()Z"⟩ prog_11_method_8_code 4 (Option.some .boolean) ∈ zU := zu_t (zu_l4 (List.mem_of_getElem? (i := 234) rfl)) rfl
theorem zu_955 : Cond.methodLink "HandToHandLaw" 138 ⟨"HandToHand", "less", "(II)I"⟩ ∈ zU := zu_t (zu_l4 (List.mem_of_getElem? (i := 235) rfl)) rfl
theorem zu_956 : Cond.instanceMethod ⟨"HandToHand", "less", "(II)I"⟩ ∈ zU := zu_t (zu_l4 (List.mem_of_getElem? (i := 236) rfl)) rfl
theorem zu_957 : Cond.selects "HandToHand" ⟨"HandToHand", "less", "(II)I"⟩ ⟨"HandToHand", "less", "(II)I"⟩ ∈ zU := zu_t (zu_l4 (List.mem_of_getElem? (i := 237) rfl)) rfl
theorem zu_958 : Cond.code ⟨"HandToHand", "less", "(II)I"⟩ prog_1_method_31_code 3 (Option.some .int) ∈ zU := zu_t (zu_l4 (List.mem_of_getElem? (i := 238) rfl)) rfl
theorem zu_959 : Cond.methodLink "HandToHand" 330 ⟨"HandToHand$Told", "dropHand", "(I)V"⟩ ∈ zU := zu_t (zu_l4 (List.mem_of_getElem? (i := 239) rfl)) rfl
theorem zu_960 : Cond.instanceMethod ⟨"HandToHand$Told", "dropHand", "(I)V"⟩ ∈ zU := zu_t (zu_l5 (List.mem_of_getElem? (i := 0) rfl)) rfl
theorem zu_961 : Cond.selects "HandToHand$Told" ⟨"HandToHand$Told", "dropHand", "(I)V"⟩ ⟨"HandToHand$Told", "dropHand", "(I)V"⟩ ∈ zU := zu_t (zu_l5 (List.mem_of_getElem? (i := 1) rfl)) rfl
theorem zu_962 : Cond.code ⟨"HandToHand$Told", "dropHand", "(I)V"⟩ prog_11_method_7_code 3 none ∈ zU := zu_t (zu_l5 (List.mem_of_getElem? (i := 2) rfl)) rfl
theorem zu_963 : Cond.methodLink "HandToHand$Told" 58 ⟨"HandToHand$Told", "copyPacesOf", "(LHandToHand$Told;II)V"⟩ ∈ zU := zu_t (zu_l5 (List.mem_of_getElem? (i := 3) rfl)) rfl
theorem zu_964 : Cond.methodLink "HandToHandLaw" 142 ⟨"HandToHand", "sheet", "(III)I"⟩ ∈ zU := zu_t (zu_l5 (List.mem_of_getElem? (i := 4) rfl)) rfl
theorem zu_965 : Cond.instanceMethod ⟨"HandToHand", "sheet", "(III)I"⟩ ∈ zU := zu_t (zu_l5 (List.mem_of_getElem? (i := 5) rfl)) rfl
theorem zu_966 : Cond.selects "HandToHand" ⟨"HandToHand", "sheet", "(III)I"⟩ ⟨"HandToHand", "sheet", "(III)I"⟩ ∈ zU := zu_t (zu_l5 (List.mem_of_getElem? (i := 6) rfl)) rfl
theorem zu_967 : Cond.code ⟨"HandToHand", "sheet", "(III)I"⟩ prog_1_method_32_code 4 (Option.some .int) ∈ zU := zu_t (zu_l5 (List.mem_of_getElem? (i := 7) rfl)) rfl
theorem zu_968 : Cond.methodLink "HandToHand" 337 ⟨"HandToHand", "isSheet", "(I)Z"⟩ ∈ zU := zu_t (zu_l5 (List.mem_of_getElem? (i := 8) rfl)) rfl
theorem zu_969 : Cond.static ⟨"HandToHand", "isSheet", "(I)Z"⟩ ∈ zU := zu_t (zu_l5 (List.mem_of_getElem? (i := 9) rfl)) rfl
theorem zu_970 : Cond.code ⟨"HandToHand", "isSheet", "(I)Z"⟩ prog_1_method_43_code 1 (Option.some .boolean) ∈ zU := zu_t (zu_l5 (List.mem_of_getElem? (i := 10) rfl)) rfl
theorem zu_971 : Cond.methodLink "HandToHand" 340 ⟨"HandToHand", "isLane", "(I)Z"⟩ ∈ zU := zu_t (zu_l5 (List.mem_of_getElem? (i := 11) rfl)) rfl
theorem zu_972 : Cond.static ⟨"HandToHand", "isLane", "(I)Z"⟩ ∈ zU := zu_t (zu_l5 (List.mem_of_getElem? (i := 12) rfl)) rfl
theorem zu_973 : Cond.code ⟨"HandToHand", "isLane", "(I)Z"⟩ prog_1_method_44_code 1 (Option.some .boolean) ∈ zU := zu_t (zu_l5 (List.mem_of_getElem? (i := 13) rfl)) rfl
theorem zu_974 : Cond.methodLink "HandToHand" 343 ⟨"HandToHand$Sheet", "makeNew", "(II)V"⟩ ∈ zU := zu_t (zu_l5 (List.mem_of_getElem? (i := 14) rfl)) rfl
theorem zu_975 : Cond.instanceMethod ⟨"HandToHand$Sheet", "makeNew", "(II)V"⟩ ∈ zU := zu_t (zu_l5 (List.mem_of_getElem? (i := 15) rfl)) rfl
theorem zu_976 : Cond.selects "HandToHand$Sheet" ⟨"HandToHand$Sheet", "makeNew", "(II)V"⟩ ⟨"HandToHand$Sheet", "makeNew", "(II)V"⟩ ∈ zU := zu_t (zu_l5 (List.mem_of_getElem? (i := 16) rfl)) rfl
theorem zu_977 : Cond.code ⟨"HandToHand$Sheet", "makeNew", "(II)V"⟩ prog_10_method_2_code 4 none ∈ zU := zu_t (zu_l5 (List.mem_of_getElem? (i := 17) rfl)) rfl
theorem zu_978 : Cond.methodLink "HandToHandLaw" 146 ⟨"HandToHand", "lay", "(III)I"⟩ ∈ zU := zu_t (zu_l5 (List.mem_of_getElem? (i := 18) rfl)) rfl
theorem zu_979 : Cond.instanceMethod ⟨"HandToHand", "lay", "(III)I"⟩ ∈ zU := zu_t (zu_l5 (List.mem_of_getElem? (i := 19) rfl)) rfl
theorem zu_980 : Cond.selects "HandToHand" ⟨"HandToHand", "lay", "(III)I"⟩ ⟨"HandToHand", "lay", "(III)I"⟩ ∈ zU := zu_t (zu_l5 (List.mem_of_getElem? (i := 20) rfl)) rfl
theorem zu_981 : Cond.code ⟨"HandToHand", "lay", "(III)I"⟩ prog_1_method_33_code 5 (Option.some .int) ∈ zU := zu_t (zu_l5 (List.mem_of_getElem? (i := 21) rfl)) rfl
theorem zu_982 : Cond.methodLink "HandToHand" 350 ⟨"HandToHand$Sheet", "put", "(II)V"⟩ ∈ zU := zu_t (zu_l5 (List.mem_of_getElem? (i := 22) rfl)) rfl
theorem zu_983 : Cond.instanceMethod ⟨"HandToHand$Sheet", "put", "(II)V"⟩ ∈ zU := zu_t (zu_l5 (List.mem_of_getElem? (i := 23) rfl)) rfl
theorem zu_984 : Cond.selects "HandToHand$Sheet" ⟨"HandToHand$Sheet", "put", "(II)V"⟩ ⟨"HandToHand$Sheet", "put", "(II)V"⟩ ∈ zU := zu_t (zu_l5 (List.mem_of_getElem? (i := 24) rfl)) rfl
theorem zu_985 : Cond.code ⟨"HandToHand$Sheet", "put", "(II)V"⟩ prog_10_method_3_code 3 none ∈ zU := zu_t (zu_l5 (List.mem_of_getElem? (i := 25) rfl)) rfl
theorem zu_986 : Cond.methodLink "HandToHandLaw" 150 ⟨"HandToHand", "read", "(IIIII)I"⟩ ∈ zU := zu_t (zu_l5 (List.mem_of_getElem? (i := 26) rfl)) rfl
theorem zu_987 : Cond.instanceMethod ⟨"HandToHand", "read", "(IIIII)I"⟩ ∈ zU := zu_t (zu_l5 (List.mem_of_getElem? (i := 27) rfl)) rfl
theorem zu_988 : Cond.selects "HandToHand" ⟨"HandToHand", "read", "(IIIII)I"⟩ ⟨"HandToHand", "read", "(IIIII)I"⟩ ∈ zU := zu_t (zu_l5 (List.mem_of_getElem? (i := 28) rfl)) rfl
theorem zu_989 : Cond.code ⟨"HandToHand", "read", "(IIIII)I"⟩ prog_1_method_34_code 10 (Option.some .int) ∈ zU := zu_t (zu_l5 (List.mem_of_getElem? (i := 29) rfl)) rfl
theorem zu_990 : Cond.methodLink "HandToHand" 353 ⟨"HandToHand$Sheet", "faultAs", "(I)I"⟩ ∈ zU := zu_t (zu_l5 (List.mem_of_getElem? (i := 30) rfl)) rfl
theorem zu_991 : Cond.instanceMethod ⟨"HandToHand$Sheet", "faultAs", "(I)I"⟩ ∈ zU := zu_t (zu_l5 (List.mem_of_getElem? (i := 31) rfl)) rfl
theorem zu_992 : Cond.selects "HandToHand$Sheet" ⟨"HandToHand$Sheet", "faultAs", "(I)I"⟩ ⟨"HandToHand$Sheet", "faultAs", "(I)I"⟩ ∈ zU := zu_t (zu_l5 (List.mem_of_getElem? (i := 32) rfl)) rfl
theorem zu_993 : Cond.code ⟨"HandToHand$Sheet", "faultAs", "(I)I"⟩ prog_10_method_4_code 2 (Option.some .int) ∈ zU := zu_t (zu_l5 (List.mem_of_getElem? (i := 33) rfl)) rfl
theorem zu_994 : Cond.methodLink "HandToHand" 356 ⟨"HandToHand$Sheet", "wholeRows", "(III)I"⟩ ∈ zU := zu_t (zu_l5 (List.mem_of_getElem? (i := 34) rfl)) rfl
theorem zu_995 : Cond.instanceMethod ⟨"HandToHand$Sheet", "wholeRows", "(III)I"⟩ ∈ zU := zu_t (zu_l5 (List.mem_of_getElem? (i := 35) rfl)) rfl
theorem zu_996 : Cond.selects "HandToHand$Sheet" ⟨"HandToHand$Sheet", "wholeRows", "(III)I"⟩ ⟨"HandToHand$Sheet", "wholeRows", "(III)I"⟩ ∈ zU := zu_t (zu_l5 (List.mem_of_getElem? (i := 36) rfl)) rfl
theorem zu_997 : Cond.code ⟨"HandToHand$Sheet", "wholeRows", "(III)I"⟩ prog_10_method_5_code 5 (Option.some .int) ∈ zU := zu_t (zu_l5 (List.mem_of_getElem? (i := 37) rfl)) rfl
theorem zu_998 : Cond.methodLink "HandToHand" 359 ⟨"HandToHand", "hasPacesAlone", "(LHandToHand$Sheet;I)Z"⟩ ∈ zU := zu_t (zu_l5 (List.mem_of_getElem? (i := 38) rfl)) rfl
theorem zu_1000 : Cond.instanceMethod ⟨"HandToHand", "hasPacesAlone", "(LHandToHand$Sheet;I)Z"⟩ ∈ zU := zu_t (zu_l5 (List.mem_of_getElem? (i := 40) rfl)) rfl
theorem zu_1001 : Cond.code ⟨"HandToHand", "hasPacesAlone", "(LHandToHand$Sheet;I)Z"⟩ prog_1_method_52_code 4 (Option.some .boolean) ∈ zU := zu_t (zu_l5 (List.mem_of_getElem? (i := 41) rfl)) rfl
theorem zu_1002 : Cond.methodLink "HandToHand" 363 ⟨"HandToHand", "copyPaces", "(LHandToHand$Sheet;II)V"⟩ ∈ zU := zu_t (zu_l5 (List.mem_of_getElem? (i := 42) rfl)) rfl
theorem zu_1004 : Cond.instanceMethod ⟨"HandToHand", "copyPaces", "(LHandToHand$Sheet;II)V"⟩ ∈ zU := zu_t (zu_l5 (List.mem_of_getElem? (i := 44) rfl)) rfl
theorem zu_1005 : Cond.code ⟨"HandToHand", "copyPaces", "(LHandToHand$Sheet;II)V"⟩ prog_1_method_53_code 5 none ∈ zU := zu_t (zu_l5 (List.mem_of_getElem? (i := 45) rfl)) rfl
theorem zu_1006 : Cond.methodLink "HandToHandLaw" 154 ⟨"HandToHand", "torn", "()I"⟩ ∈ zU := zu_t (zu_l5 (List.mem_of_getElem? (i := 46) rfl)) rfl
theorem zu_1007 : Cond.instanceMethod ⟨"HandToHand", "torn", "()I"⟩ ∈ zU := zu_t (zu_l5 (List.mem_of_getElem? (i := 47) rfl)) rfl
theorem zu_1008 : Cond.selects "HandToHand" ⟨"HandToHand", "torn", "()I"⟩ ⟨"HandToHand", "torn", "()I"⟩ ∈ zU := zu_t (zu_l5 (List.mem_of_getElem? (i := 48) rfl)) rfl
theorem zu_1009 : Cond.code ⟨"HandToHand", "torn", "()I"⟩ prog_1_method_35_code 1 (Option.some .int) ∈ zU := zu_t (zu_l5 (List.mem_of_getElem? (i := 49) rfl)) rfl
theorem zu_1010 : Cond.methodLink "HandToHandLaw" 158 ⟨"HandToHand", "count", "(I)I"⟩ ∈ zU := zu_t (zu_l5 (List.mem_of_getElem? (i := 50) rfl)) rfl
theorem zu_1011 : Cond.instanceMethod ⟨"HandToHand", "count", "(I)I"⟩ ∈ zU := zu_t (zu_l5 (List.mem_of_getElem? (i := 51) rfl)) rfl
theorem zu_1012 : Cond.selects "HandToHand" ⟨"HandToHand", "count", "(I)I"⟩ ⟨"HandToHand", "count", "(I)I"⟩ ∈ zU := zu_t (zu_l5 (List.mem_of_getElem? (i := 52) rfl)) rfl
theorem zu_1013 : Cond.code ⟨"HandToHand", "count", "(I)I"⟩ prog_1_method_36_code 2 (Option.some .int) ∈ zU := zu_t (zu_l5 (List.mem_of_getElem? (i := 53) rfl)) rfl
theorem zu_1014 : Cond.classLink "HandToHandLaw" 10 "HandToHandModel" ∈ zU := zu_t (zu_l5 (List.mem_of_getElem? (i := 54) rfl)) rfl
theorem zu_1015 : Cond.instantiable "HandToHandModel" 40 ∈ zU := zu_t (zu_l5 (List.mem_of_getElem? (i := 55) rfl)) rfl
theorem zu_1016 : Cond.methodLink "HandToHandLaw" 12 ⟨"HandToHandModel", "<init>", "()V"⟩ ∈ zU := zu_t (zu_l5 (List.mem_of_getElem? (i := 56) rfl)) rfl
theorem zu_1017 : Cond.instanceMethod ⟨"HandToHandModel", "<init>", "()V"⟩ ∈ zU := zu_t (zu_l5 (List.mem_of_getElem? (i := 57) rfl)) rfl
theorem zu_1018 : Cond.code ⟨"HandToHandModel", "<init>", "()V"⟩ prog_13_method_1_code 1 none ∈ zU := zu_t (zu_l5 (List.mem_of_getElem? (i := 58) rfl)) rfl
theorem zu_1019 : Cond.methodLink "HandToHandModel" 1 ⟨"java/lang/Object", "<init>", "()V"⟩ ∈ zU := zu_t (zu_l5 (List.mem_of_getElem? (i := 59) rfl)) rfl
theorem zu_1020 : Cond.fieldLink "HandToHandModel" 7 "HandToHandModel" "tape" "[I" ∈ zU := zu_t (zu_l5 (List.mem_of_getElem? (i := 60) rfl)) rfl
theorem zu_1021 : Cond.fieldLink "HandToHandModel" 65 "HandToHandModel" "taped" "I" ∈ zU := zu_t (zu_l5 (List.mem_of_getElem? (i := 61) rfl)) rfl
theorem zu_1022 : Cond.fieldLink "HandToHandModel" 156 "HandToHandModel" "fault" "I" ∈ zU := zu_t (zu_l5 (List.mem_of_getElem? (i := 62) rfl)) rfl
theorem zu_1023 : Cond.fieldLink "HandToHandModel" 73 "HandToHandModel" "wrong" "I" ∈ zU := zu_t (zu_l5 (List.mem_of_getElem? (i := 63) rfl)) rfl
theorem zu_1024 : Cond.fieldLink "HandToHandModel" 79 "HandToHandModel" "wrongAt" "I" ∈ zU := zu_t (zu_l5 (List.mem_of_getElem? (i := 64) rfl)) rfl
theorem zu_1025 : Cond.fieldLink "HandToHandModel" 86 "HandToHandModel" "spot" "I" ∈ zU := zu_t (zu_l5 (List.mem_of_getElem? (i := 65) rfl)) rfl
theorem zu_1026 : Cond.fieldLink "HandToHandModel" 76 "HandToHandModel" "place" "I" ∈ zU := zu_t (zu_l5 (List.mem_of_getElem? (i := 66) rfl)) rfl
theorem zu_1027 : Cond.fieldLink "HandToHandModel" 92 "HandToHandModel" "token" "I" ∈ zU := zu_t (zu_l5 (List.mem_of_getElem? (i := 67) rfl)) rfl
theorem zu_1028 : Cond.fieldLink "HandToHandModel" 89 "HandToHandModel" "value" "I" ∈ zU := zu_t (zu_l5 (List.mem_of_getElem? (i := 68) rfl)) rfl
theorem zu_1029 : Cond.fieldLink "HandToHandModel" 13 "HandToHandModel" "cuts" "[I" ∈ zU := zu_t (zu_l5 (List.mem_of_getElem? (i := 69) rfl)) rfl
theorem zu_1030 : Cond.fieldLink "HandToHandModel" 16 "HandToHandModel" "letters" "[I" ∈ zU := zu_t (zu_l5 (List.mem_of_getElem? (i := 70) rfl)) rfl
theorem zu_1031 : Cond.fieldLink "HandToHandModel" 19 "HandToHandModel" "holds" "[I" ∈ zU := zu_t (zu_l5 (List.mem_of_getElem? (i := 71) rfl)) rfl
theorem zu_1032 : Cond.fieldLink "HandToHandModel" 22 "HandToHandModel" "reads" "[I" ∈ zU := zu_t (zu_l5 (List.mem_of_getElem? (i := 72) rfl)) rfl
theorem zu_1033 : Cond.fieldLink "HandToHandModel" 128 "HandToHandModel" "toldOnes" "I" ∈ zU := zu_t (zu_l5 (List.mem_of_getElem? (i := 73) rfl)) rfl
theorem zu_1034 : Cond.fieldLink "HandToHandModel" 117 "HandToHandModel" "toldSorts" "I" ∈ zU := zu_t (zu_l5 (List.mem_of_getElem? (i := 74) rfl)) rfl
theorem zu_1035 : Cond.fieldLink "HandToHandModel" 120 "HandToHandModel" "hasEnds" "Z" ∈ zU := zu_t (zu_l5 (List.mem_of_getElem? (i := 75) rfl)) rfl
theorem zu_1036 : Cond.fieldLink "HandToHandModel" 25 "HandToHandModel" "bench" "[I" ∈ zU := zu_t (zu_l5 (List.mem_of_getElem? (i := 76) rfl)) rfl
theorem zu_1037 : Cond.fieldLink "HandToHandModel" 28 "HandToHandModel" "isKept" "[Z" ∈ zU := zu_t (zu_l5 (List.mem_of_getElem? (i := 77) rfl)) rfl
theorem zu_1038 : Cond.fieldLink "HandToHandModel" 189 "HandToHandModel" "many" "I" ∈ zU := zu_t (zu_l5 (List.mem_of_getElem? (i := 78) rfl)) rfl
theorem zu_1039 : Cond.fieldLink "HandToHandModel" 192 "HandToHandModel" "ruleNow" "I" ∈ zU := zu_t (zu_l5 (List.mem_of_getElem? (i := 79) rfl)) rfl
theorem zu_1040 : Cond.fieldLink "HandToHandModel" 32 "HandToHandModel" "who" "[I" ∈ zU := zu_t (zu_l5 (List.mem_of_getElem? (i := 80) rfl)) rfl
theorem zu_1041 : Cond.fieldLink "HandToHandModel" 35 "HandToHandModel" "ends" "[I" ∈ zU := zu_t (zu_l5 (List.mem_of_getElem? (i := 81) rfl)) rfl
theorem zu_1042 : Cond.fieldLink "HandToHandModel" 38 "HandToHandModel" "overs" "[I" ∈ zU := zu_t (zu_l5 (List.mem_of_getElem? (i := 82) rfl)) rfl
theorem zu_1043 : Cond.fieldLink "HandToHandModel" 41 "HandToHandModel" "stood" "[I" ∈ zU := zu_t (zu_l5 (List.mem_of_getElem? (i := 83) rfl)) rfl
theorem zu_1044 : Cond.fieldLink "HandToHandModel" 240 "HandToHandModel" "isAwake" "Z" ∈ zU := zu_t (zu_l5 (List.mem_of_getElem? (i := 84) rfl)) rfl
theorem zu_1045 : Cond.fieldLink "HandToHandModel" 44 "HandToHandModel" "seen" "[I" ∈ zU := zu_t (zu_l5 (List.mem_of_getElem? (i := 85) rfl)) rfl
theorem zu_1046 : Cond.fieldLink "HandToHandModel" 47 "HandToHandModel" "seenDone" "[I" ∈ zU := zu_t (zu_l5 (List.mem_of_getElem? (i := 86) rfl)) rfl
theorem zu_1047 : Cond.fieldLink "HandToHandModel" 50 "HandToHandModel" "seenTick" "[I" ∈ zU := zu_t (zu_l5 (List.mem_of_getElem? (i := 87) rfl)) rfl
theorem zu_1048 : Cond.fieldLink "HandToHandModel" 259 "HandToHandModel" "seenMany" "I" ∈ zU := zu_t (zu_l5 (List.mem_of_getElem? (i := 88) rfl)) rfl
theorem zu_1049 : Cond.fieldLink "HandToHandModel" 265 "HandToHandModel" "ringFrom" "I" ∈ zU := zu_t (zu_l5 (List.mem_of_getElem? (i := 89) rfl)) rfl
theorem zu_1050 : Cond.fieldLink "HandToHandModel" 274 "HandToHandModel" "ringTo" "I" ∈ zU := zu_t (zu_l5 (List.mem_of_getElem? (i := 90) rfl)) rfl
theorem zu_1051 : Cond.fieldLink "HandToHandModel" 289 "HandToHandModel" "ringCoats" "I" ∈ zU := zu_t (zu_l5 (List.mem_of_getElem? (i := 91) rfl)) rfl
theorem zu_1052 : Cond.fieldLink "HandToHandModel" 292 "HandToHandModel" "ringTicks" "I" ∈ zU := zu_t (zu_l5 (List.mem_of_getElem? (i := 92) rfl)) rfl
theorem zu_1053 : Cond.fieldLink "HandToHandModel" 322 "HandToHandModel" "bestCoats" "I" ∈ zU := zu_t (zu_l5 (List.mem_of_getElem? (i := 93) rfl)) rfl
theorem zu_1054 : Cond.fieldLink "HandToHandModel" 319 "HandToHandModel" "bestTicks" "I" ∈ zU := zu_t (zu_l5 (List.mem_of_getElem? (i := 94) rfl)) rfl
theorem zu_1055 : Cond.fieldLink "HandToHandModel" 53 "HandToHandModel" "bestEnds" "[I" ∈ zU := zu_t (zu_l5 (List.mem_of_getElem? (i := 95) rfl)) rfl
theorem zu_1056 : Cond.fieldLink "HandToHandModel" 56 "HandToHandModel" "lanes" "[I" ∈ zU := zu_t (zu_l5 (List.mem_of_getElem? (i := 96) rfl)) rfl
theorem zu_1057 : Cond.fieldLink "HandToHandModel" 59 "HandToHandModel" "lengths" "[I" ∈ zU := zu_t (zu_l5 (List.mem_of_getElem? (i := 97) rfl)) rfl
theorem zu_1058 : Cond.fieldLink "HandToHandModel" 62 "HandToHandModel" "cells" "[I" ∈ zU := zu_t (zu_l5 (List.mem_of_getElem? (i := 98) rfl)) rfl
theorem zu_1059 : Cond.fieldLink "HandToHandModel" 337 "HandToHandModel" "torn" "I" ∈ zU := zu_t (zu_l5 (List.mem_of_getElem? (i := 99) rfl)) rfl
theorem zu_1141 : Cond.methodLink "HandToHandLaw" 19 ⟨"HandToHandModel", "feed", "(J)I"⟩ ∈ zU := zu_t (zu_l5 (List.mem_of_getElem? (i := 181) rfl)) rfl
theorem zu_1142 : Cond.instanceMethod ⟨"HandToHandModel", "feed", "(J)I"⟩ ∈ zU := zu_t (zu_l5 (List.mem_of_getElem? (i := 182) rfl)) rfl
theorem zu_1143 : Cond.selects "HandToHandModel" ⟨"HandToHandModel", "feed", "(J)I"⟩ ⟨"HandToHandModel", "feed", "(J)I"⟩ ∈ zU := zu_t (zu_l5 (List.mem_of_getElem? (i := 183) rfl)) rfl
theorem zu_1144 : Cond.code ⟨"HandToHandModel", "feed", "(J)I"⟩ prog_13_method_4_code 4 (Option.some .int) ∈ zU := zu_t (zu_l5 (List.mem_of_getElem? (i := 184) rfl)) rfl
theorem zu_1145 : Cond.methodLink "HandToHandLaw" 24 ⟨"HandToHandModel", "end", "(I)I"⟩ ∈ zU := zu_t (zu_l5 (List.mem_of_getElem? (i := 185) rfl)) rfl
theorem zu_1146 : Cond.instanceMethod ⟨"HandToHandModel", "end", "(I)I"⟩ ∈ zU := zu_t (zu_l5 (List.mem_of_getElem? (i := 186) rfl)) rfl
theorem zu_1147 : Cond.selects "HandToHandModel" ⟨"HandToHandModel", "end", "(I)I"⟩ ⟨"HandToHandModel", "end", "(I)I"⟩ ∈ zU := zu_t (zu_l5 (List.mem_of_getElem? (i := 187) rfl)) rfl
theorem zu_1148 : Cond.code ⟨"HandToHandModel", "end", "(I)I"⟩ prog_13_method_5_code 3 (Option.some .int) ∈ zU := zu_t (zu_l5 (List.mem_of_getElem? (i := 188) rfl)) rfl
theorem zu_1149 : Cond.methodLink "HandToHandModel" 69 ⟨"HandToHandModel", "in", "(JJJ)Z"⟩ ∈ zU := zu_t (zu_l5 (List.mem_of_getElem? (i := 189) rfl)) rfl
theorem zu_1150 : Cond.static ⟨"HandToHandModel", "in", "(JJJ)Z"⟩ ∈ zU := zu_t (zu_l5 (List.mem_of_getElem? (i := 190) rfl)) rfl
theorem zu_1151 : Cond.code ⟨"HandToHandModel", "in", "(JJJ)Z"⟩ prog_13_method_3_code 6 (Option.some .boolean) ∈ zU := zu_t (zu_l5 (List.mem_of_getElem? (i := 191) rfl)) rfl
theorem zu_1152 : Cond.methodLink "HandToHandLaw" 29 ⟨"HandToHandModel", "text", "()I"⟩ ∈ zU := zu_t (zu_l5 (List.mem_of_getElem? (i := 192) rfl)) rfl
theorem zu_1153 : Cond.instanceMethod ⟨"HandToHandModel", "text", "()I"⟩ ∈ zU := zu_t (zu_l5 (List.mem_of_getElem? (i := 193) rfl)) rfl
theorem zu_1154 : Cond.selects "HandToHandModel" ⟨"HandToHandModel", "text", "()I"⟩ ⟨"HandToHandModel", "text", "()I"⟩ ∈ zU := zu_t (zu_l5 (List.mem_of_getElem? (i := 194) rfl)) rfl
theorem zu_1155 : Cond.code ⟨"HandToHandModel", "text", "()I"⟩ prog_13_method_20_code 3 (Option.some .int) ∈ zU := zu_t (zu_l5 (List.mem_of_getElem? (i := 195) rfl)) rfl
theorem zu_1156 : Cond.methodLink "HandToHandModel" 114 ⟨"HandToHandModel", "next", "()V"⟩ ∈ zU := zu_t (zu_l5 (List.mem_of_getElem? (i := 196) rfl)) rfl
theorem zu_1158 : Cond.instanceMethod ⟨"HandToHandModel", "next", "()V"⟩ ∈ zU := zu_t (zu_l5 (List.mem_of_getElem? (i := 198) rfl)) rfl
theorem zu_1159 : Cond.code ⟨"HandToHandModel", "next", "()V"⟩ prog_13_method_9_code 2 none ∈ zU := zu_t (zu_l5 (List.mem_of_getElem? (i := 199) rfl)) rfl
theorem zu_1160 : Cond.methodLink "HandToHandModel" 82 ⟨"HandToHandModel", "byteAt", "(I)I"⟩ ∈ zU := zu_t (zu_l5 (List.mem_of_getElem? (i := 200) rfl)) rfl
theorem zu_1162 : Cond.instanceMethod ⟨"HandToHandModel", "byteAt", "(I)I"⟩ ∈ zU := zu_t (zu_l5 (List.mem_of_getElem? (i := 202) rfl)) rfl
theorem zu_1163 : Cond.code ⟨"HandToHandModel", "byteAt", "(I)I"⟩ prog_13_method_6_code 2 (Option.some .int) ∈ zU := zu_t (zu_l5 (List.mem_of_getElem? (i := 203) rfl)) rfl
theorem zu_1164 : Cond.constantLong "HandToHandModel" 95 (97 : Int64) ∈ zU := zu_t (zu_l5 (List.mem_of_getElem? (i := 204) rfl)) rfl
theorem zu_1165 : Cond.constantLong "HandToHandModel" 97 (122 : Int64) ∈ zU := zu_t (zu_l5 (List.mem_of_getElem? (i := 205) rfl)) rfl
theorem zu_1166 : Cond.methodLink "HandToHandModel" 99 ⟨"HandToHandModel", "nameAt", "(II)I"⟩ ∈ zU := zu_t (zu_l5 (List.mem_of_getElem? (i := 206) rfl)) rfl
theorem zu_1168 : Cond.instanceMethod ⟨"HandToHandModel", "nameAt", "(II)I"⟩ ∈ zU := zu_t (zu_l5 (List.mem_of_getElem? (i := 208) rfl)) rfl
theorem zu_1169 : Cond.code ⟨"HandToHandModel", "nameAt", "(II)I"⟩ prog_13_method_8_code 6 (Option.some .int) ∈ zU := zu_t (zu_l5 (List.mem_of_getElem? (i := 209) rfl)) rfl
theorem zu_1170 : Cond.methodLink "HandToHandModel" 103 ⟨"HandToHandModel", "fails", "(I)V"⟩ ∈ zU := zu_t (zu_l5 (List.mem_of_getElem? (i := 210) rfl)) rfl
theorem zu_1172 : Cond.instanceMethod ⟨"HandToHandModel", "fails", "(I)V"⟩ ∈ zU := zu_t (zu_l5 (List.mem_of_getElem? (i := 212) rfl)) rfl
theorem zu_1173 : Cond.code ⟨"HandToHandModel", "fails", "(I)V"⟩ prog_13_method_7_code 2 none ∈ zU := zu_t (zu_l5 (List.mem_of_getElem? (i := 213) rfl)) rfl
theorem zu_1174 : Cond.constantLong "HandToHandModel" 107 (48 : Int64) ∈ zU := zu_t (zu_l5 (List.mem_of_getElem? (i := 214) rfl)) rfl
theorem zu_1175 : Cond.constantLong "HandToHandModel" 109 (57 : Int64) ∈ zU := zu_t (zu_l5 (List.mem_of_getElem? (i := 215) rfl)) rfl
theorem zu_1176 : Cond.methodLink "HandToHandModel" 149 ⟨"HandToHandModel", "readLine", "()V"⟩ ∈ zU := zu_t (zu_l5 (List.mem_of_getElem? (i := 216) rfl)) rfl
theorem zu_1178 : Cond.instanceMethod ⟨"HandToHandModel", "readLine", "()V"⟩ ∈ zU := zu_t (zu_l5 (List.mem_of_getElem? (i := 218) rfl)) rfl
theorem zu_1179 : Cond.code ⟨"HandToHandModel", "readLine", "()V"⟩ prog_13_method_18_code 3 none ∈ zU := zu_t (zu_l5 (List.mem_of_getElem? (i := 219) rfl)) rfl
theorem zu_1180 : Cond.methodLink "HandToHandModel" 131 ⟨"HandToHandModel", "readPiece", "()V"⟩ ∈ zU := zu_t (zu_l5 (List.mem_of_getElem? (i := 220) rfl)) rfl
theorem zu_1182 : Cond.instanceMethod ⟨"HandToHandModel", "readPiece", "()V"⟩ ∈ zU := zu_t (zu_l5 (List.mem_of_getElem? (i := 222) rfl)) rfl
theorem zu_1183 : Cond.code ⟨"HandToHandModel", "readPiece", "()V"⟩ prog_13_method_12_code 2 none ∈ zU := zu_t (zu_l5 (List.mem_of_getElem? (i := 223) rfl)) rfl
theorem zu_1184 : Cond.methodLink "HandToHandModel" 111 ⟨"HandToHandModel", "number", "(II)I"⟩ ∈ zU := zu_t (zu_l5 (List.mem_of_getElem? (i := 224) rfl)) rfl
theorem zu_1186 : Cond.instanceMethod ⟨"HandToHandModel", "number", "(II)I"⟩ ∈ zU := zu_t (zu_l5 (List.mem_of_getElem? (i := 226) rfl)) rfl
theorem zu_1187 : Cond.code ⟨"HandToHandModel", "number", "(II)I"⟩ prog_13_method_10_code 3 (Option.some .int) ∈ zU := zu_t (zu_l5 (List.mem_of_getElem? (i := 227) rfl)) rfl
theorem zu_1188 : Cond.methodLink "HandToHandModel" 134 ⟨"HandToHandModel", "readWhole", "()V"⟩ ∈ zU := zu_t (zu_l5 (List.mem_of_getElem? (i := 228) rfl)) rfl
theorem zu_1190 : Cond.instanceMethod ⟨"HandToHandModel", "readWhole", "()V"⟩ ∈ zU := zu_t (zu_l5 (List.mem_of_getElem? (i := 230) rfl)) rfl
theorem zu_1191 : Cond.code ⟨"HandToHandModel", "readWhole", "()V"⟩ prog_13_method_13_code 2 none ∈ zU := zu_t (zu_l5 (List.mem_of_getElem? (i := 231) rfl)) rfl
theorem zu_1192 : Cond.methodLink "HandToHandModel" 137 ⟨"HandToHandModel", "readSort", "()V"⟩ ∈ zU := zu_t (zu_l5 (List.mem_of_getElem? (i := 232) rfl)) rfl
theorem zu_1194 : Cond.instanceMethod ⟨"HandToHandModel", "readSort", "()V"⟩ ∈ zU := zu_t (zu_l5 (List.mem_of_getElem? (i := 234) rfl)) rfl
theorem zu_1195 : Cond.code ⟨"HandToHandModel", "readSort", "()V"⟩ prog_13_method_14_code 2 none ∈ zU := zu_t (zu_l5 (List.mem_of_getElem? (i := 235) rfl)) rfl
theorem zu_1196 : Cond.methodLink "HandToHandModel" 124 ⟨"HandToHandModel", "numbers", "(IIII)V"⟩ ∈ zU := zu_t (zu_l5 (List.mem_of_getElem? (i := 236) rfl)) rfl
theorem zu_1198 : Cond.instanceMethod ⟨"HandToHandModel", "numbers", "(IIII)V"⟩ ∈ zU := zu_t (zu_l5 (List.mem_of_getElem? (i := 238) rfl)) rfl
theorem zu_1199 : Cond.code ⟨"HandToHandModel", "numbers", "(IIII)V"⟩ prog_13_method_11_code 6 none ∈ zU := zu_t (zu_l5 (List.mem_of_getElem? (i := 239) rfl)) rfl
theorem zu_1200 : Cond.methodLink "HandToHandModel" 140 ⟨"HandToHandModel", "readRow", "()V"⟩ ∈ zU := zu_t (zu_l6 (List.mem_of_getElem? (i := 0) rfl)) rfl
theorem zu_1202 : Cond.instanceMethod ⟨"HandToHandModel", "readRow", "()V"⟩ ∈ zU := zu_t (zu_l6 (List.mem_of_getElem? (i := 2) rfl)) rfl
theorem zu_1203 : Cond.code ⟨"HandToHandModel", "readRow", "()V"⟩ prog_13_method_15_code 3 none ∈ zU := zu_t (zu_l6 (List.mem_of_getElem? (i := 3) rfl)) rfl
theorem zu_1204 : Cond.methodLink "HandToHandModel" 143 ⟨"HandToHandModel", "readHand", "()V"⟩ ∈ zU := zu_t (zu_l6 (List.mem_of_getElem? (i := 4) rfl)) rfl
theorem zu_1206 : Cond.instanceMethod ⟨"HandToHandModel", "readHand", "()V"⟩ ∈ zU := zu_t (zu_l6 (List.mem_of_getElem? (i := 6) rfl)) rfl
theorem zu_1207 : Cond.code ⟨"HandToHandModel", "readHand", "()V"⟩ prog_13_method_16_code 1 none ∈ zU := zu_t (zu_l6 (List.mem_of_getElem? (i := 7) rfl)) rfl
theorem zu_1208 : Cond.methodLink "HandToHandModel" 146 ⟨"HandToHandModel", "readEnds", "()V"⟩ ∈ zU := zu_t (zu_l6 (List.mem_of_getElem? (i := 8) rfl)) rfl
theorem zu_1210 : Cond.instanceMethod ⟨"HandToHandModel", "readEnds", "()V"⟩ ∈ zU := zu_t (zu_l6 (List.mem_of_getElem? (i := 10) rfl)) rfl
theorem zu_1211 : Cond.code ⟨"HandToHandModel", "readEnds", "()V"⟩ prog_13_method_17_code 3 none ∈ zU := zu_t (zu_l6 (List.mem_of_getElem? (i := 11) rfl)) rfl
theorem zu_1212 : Cond.methodLink "HandToHandModel" 152 ⟨"HandToHandModel", "wholeFault", "()I"⟩ ∈ zU := zu_t (zu_l6 (List.mem_of_getElem? (i := 12) rfl)) rfl
theorem zu_1214 : Cond.instanceMethod ⟨"HandToHandModel", "wholeFault", "()I"⟩ ∈ zU := zu_t (zu_l6 (List.mem_of_getElem? (i := 14) rfl)) rfl
theorem zu_1215 : Cond.code ⟨"HandToHandModel", "wholeFault", "()I"⟩ prog_13_method_19_code 4 (Option.some .int) ∈ zU := zu_t (zu_l6 (List.mem_of_getElem? (i := 15) rfl)) rfl
theorem zu_1216 : Cond.methodLink "HandToHandModel" 159 ⟨"HandToHandModel", "beginAnew", "()V"⟩ ∈ zU := zu_t (zu_l6 (List.mem_of_getElem? (i := 16) rfl)) rfl
theorem zu_1218 : Cond.instanceMethod ⟨"HandToHandModel", "beginAnew", "()V"⟩ ∈ zU := zu_t (zu_l6 (List.mem_of_getElem? (i := 18) rfl)) rfl
theorem zu_1219 : Cond.code ⟨"HandToHandModel", "beginAnew", "()V"⟩ prog_13_method_49_code 1 none ∈ zU := zu_t (zu_l6 (List.mem_of_getElem? (i := 19) rfl)) rfl
theorem zu_1220 : Cond.methodLink "HandToHandModel" 249 ⟨"HandToHandModel", "clear", "(I)V"⟩ ∈ zU := zu_t (zu_l6 (List.mem_of_getElem? (i := 20) rfl)) rfl
theorem zu_1222 : Cond.instanceMethod ⟨"HandToHandModel", "clear", "(I)V"⟩ ∈ zU := zu_t (zu_l6 (List.mem_of_getElem? (i := 22) rfl)) rfl
theorem zu_1223 : Cond.code ⟨"HandToHandModel", "clear", "(I)V"⟩ prog_13_method_29_code 3 none ∈ zU := zu_t (zu_l6 (List.mem_of_getElem? (i := 23) rfl)) rfl
theorem zu_1224 : Cond.methodLink "HandToHandModel" 180 ⟨"HandToHandModel", "awake", "()V"⟩ ∈ zU := zu_t (zu_l6 (List.mem_of_getElem? (i := 24) rfl)) rfl
theorem zu_1226 : Cond.instanceMethod ⟨"HandToHandModel", "awake", "()V"⟩ ∈ zU := zu_t (zu_l6 (List.mem_of_getElem? (i := 26) rfl)) rfl
theorem zu_1227 : Cond.code ⟨"HandToHandModel", "awake", "()V"⟩ prog_13_method_48_code 1 none ∈ zU := zu_t (zu_l6 (List.mem_of_getElem? (i := 27) rfl)) rfl
theorem zu_1228 : Cond.methodLink "HandToHandModel" 243 ⟨"HandToHandModel", "asNumbered", "()V"⟩ ∈ zU := zu_t (zu_l6 (List.mem_of_getElem? (i := 28) rfl)) rfl
theorem zu_1230 : Cond.instanceMethod ⟨"HandToHandModel", "asNumbered", "()V"⟩ ∈ zU := zu_t (zu_l6 (List.mem_of_getElem? (i := 30) rfl)) rfl
theorem zu_1231 : Cond.code ⟨"HandToHandModel", "asNumbered", "()V"⟩ prog_13_method_36_code 2 none ∈ zU := zu_t (zu_l6 (List.mem_of_getElem? (i := 31) rfl)) rfl
theorem zu_1232 : Cond.methodLink "HandToHandModel" 170 ⟨"HandToHandModel", "endOf", "(I)I"⟩ ∈ zU := zu_t (zu_l6 (List.mem_of_getElem? (i := 32) rfl)) rfl
theorem zu_1234 : Cond.instanceMethod ⟨"HandToHandModel", "endOf", "(I)I"⟩ ∈ zU := zu_t (zu_l6 (List.mem_of_getElem? (i := 34) rfl)) rfl
theorem zu_1235 : Cond.code ⟨"HandToHandModel", "endOf", "(I)I"⟩ prog_13_method_24_code 2 (Option.some .int) ∈ zU := zu_t (zu_l6 (List.mem_of_getElem? (i := 35) rfl)) rfl
theorem zu_1236 : Cond.methodLink "HandToHandModel" 246 ⟨"HandToHandModel", "settle", "(I)V"⟩ ∈ zU := zu_t (zu_l6 (List.mem_of_getElem? (i := 36) rfl)) rfl
theorem zu_1238 : Cond.instanceMethod ⟨"HandToHandModel", "settle", "(I)V"⟩ ∈ zU := zu_t (zu_l6 (List.mem_of_getElem? (i := 38) rfl)) rfl
theorem zu_1239 : Cond.code ⟨"HandToHandModel", "settle", "(I)V"⟩ prog_13_method_45_code 4 none ∈ zU := zu_t (zu_l6 (List.mem_of_getElem? (i := 39) rfl)) rfl
theorem zu_1240 : Cond.methodLink "HandToHandModel" 234 ⟨"HandToHandModel", "does", "(II)Z"⟩ ∈ zU := zu_t (zu_l6 (List.mem_of_getElem? (i := 40) rfl)) rfl
theorem zu_1242 : Cond.instanceMethod ⟨"HandToHandModel", "does", "(II)Z"⟩ ∈ zU := zu_t (zu_l6 (List.mem_of_getElem? (i := 42) rfl)) rfl
theorem zu_1243 : Cond.code ⟨"HandToHandModel", "does", "(II)Z"⟩ prog_13_method_44_code 5 (Option.some .boolean) ∈ zU := zu_t (zu_l6 (List.mem_of_getElem? (i := 43) rfl)) rfl
theorem zu_1244 : Cond.methodLink "HandToHandModel" 195 ⟨"HandToHandModel", "at", "(III)I"⟩ ∈ zU := zu_t (zu_l6 (List.mem_of_getElem? (i := 44) rfl)) rfl
theorem zu_1246 : Cond.instanceMethod ⟨"HandToHandModel", "at", "(III)I"⟩ ∈ zU := zu_t (zu_l6 (List.mem_of_getElem? (i := 46) rfl)) rfl
theorem zu_1247 : Cond.code ⟨"HandToHandModel", "at", "(III)I"⟩ prog_13_method_30_code 4 (Option.some .int) ∈ zU := zu_t (zu_l6 (List.mem_of_getElem? (i := 47) rfl)) rfl
theorem zu_1248 : Cond.constantLong "HandToHandModel" 173 (2 : Int64) ∈ zU := zu_t (zu_l6 (List.mem_of_getElem? (i := 48) rfl)) rfl
theorem zu_1249 : Cond.constantLong "HandToHandModel" 183 (4 : Int64) ∈ zU := zu_t (zu_l6 (List.mem_of_getElem? (i := 49) rfl)) rfl
theorem zu_1250 : Cond.methodLink "HandToHandModel" 221 ⟨"HandToHandModel", "endsUnit", "(II)V"⟩ ∈ zU := zu_t (zu_l6 (List.mem_of_getElem? (i := 50) rfl)) rfl
theorem zu_1252 : Cond.instanceMethod ⟨"HandToHandModel", "endsUnit", "(II)V"⟩ ∈ zU := zu_t (zu_l6 (List.mem_of_getElem? (i := 52) rfl)) rfl
theorem zu_1253 : Cond.code ⟨"HandToHandModel", "endsUnit", "(II)V"⟩ prog_13_method_40_code 6 none ∈ zU := zu_t (zu_l6 (List.mem_of_getElem? (i := 53) rfl)) rfl
theorem zu_1254 : Cond.methodLink "HandToHandModel" 185 ⟨"HandToHandModel", "learntAt", "(III)I"⟩ ∈ zU := zu_t (zu_l6 (List.mem_of_getElem? (i := 54) rfl)) rfl
theorem zu_1256 : Cond.instanceMethod ⟨"HandToHandModel", "learntAt", "(III)I"⟩ ∈ zU := zu_t (zu_l6 (List.mem_of_getElem? (i := 56) rfl)) rfl
theorem zu_1257 : Cond.code ⟨"HandToHandModel", "learntAt", "(III)I"⟩ prog_13_method_34_code 4 (Option.some .int) ∈ zU := zu_t (zu_l6 (List.mem_of_getElem? (i := 57) rfl)) rfl
theorem zu_1258 : Cond.methodLink "HandToHandModel" 201 ⟨"HandToHandModel", "put", "(IIII)V"⟩ ∈ zU := zu_t (zu_l6 (List.mem_of_getElem? (i := 58) rfl)) rfl
theorem zu_1260 : Cond.instanceMethod ⟨"HandToHandModel", "put", "(IIII)V"⟩ ∈ zU := zu_t (zu_l6 (List.mem_of_getElem? (i := 60) rfl)) rfl
theorem zu_1261 : Cond.code ⟨"HandToHandModel", "put", "(IIII)V"⟩ prog_13_method_31_code 5 none ∈ zU := zu_t (zu_l6 (List.mem_of_getElem? (i := 61) rfl)) rfl
theorem zu_1262 : Cond.methodLink "HandToHandModel" 204 ⟨"HandToHandModel", "pieceFrom", "(II)I"⟩ ∈ zU := zu_t (zu_l6 (List.mem_of_getElem? (i := 62) rfl)) rfl
theorem zu_1264 : Cond.instanceMethod ⟨"HandToHandModel", "pieceFrom", "(II)I"⟩ ∈ zU := zu_t (zu_l6 (List.mem_of_getElem? (i := 64) rfl)) rfl
theorem zu_1265 : Cond.code ⟨"HandToHandModel", "pieceFrom", "(II)I"⟩ prog_13_method_39_code 4 (Option.some .int) ∈ zU := zu_t (zu_l6 (List.mem_of_getElem? (i := 65) rfl)) rfl
theorem zu_1266 : Cond.methodLink "HandToHandModel" 207 ⟨"HandToHandModel", "more", "(III)V"⟩ ∈ zU := zu_t (zu_l6 (List.mem_of_getElem? (i := 66) rfl)) rfl
theorem zu_1268 : Cond.instanceMethod ⟨"HandToHandModel", "more", "(III)V"⟩ ∈ zU := zu_t (zu_l6 (List.mem_of_getElem? (i := 68) rfl)) rfl
theorem zu_1269 : Cond.code ⟨"HandToHandModel", "more", "(III)V"⟩ prog_13_method_33_code 4 none ∈ zU := zu_t (zu_l6 (List.mem_of_getElem? (i := 69) rfl)) rfl
theorem zu_1270 : Cond.methodLink "HandToHandModel" 211 ⟨"HandToHandModel", "goesBack", "(III)V"⟩ ∈ zU := zu_t (zu_l6 (List.mem_of_getElem? (i := 70) rfl)) rfl
theorem zu_1272 : Cond.instanceMethod ⟨"HandToHandModel", "goesBack", "(III)V"⟩ ∈ zU := zu_t (zu_l6 (List.mem_of_getElem? (i := 72) rfl)) rfl
theorem zu_1273 : Cond.code ⟨"HandToHandModel", "goesBack", "(III)V"⟩ prog_13_method_38_code 5 none ∈ zU := zu_t (zu_l6 (List.mem_of_getElem? (i := 73) rfl)) rfl
theorem zu_1274 : Cond.methodLink "HandToHandModel" 198 ⟨"HandToHandModel", "pieceOr0", "(II)I"⟩ ∈ zU := zu_t (zu_l6 (List.mem_of_getElem? (i := 74) rfl)) rfl
theorem zu_1276 : Cond.instanceMethod ⟨"HandToHandModel", "pieceOr0", "(II)I"⟩ ∈ zU := zu_t (zu_l6 (List.mem_of_getElem? (i := 76) rfl)) rfl
theorem zu_1277 : Cond.code ⟨"HandToHandModel", "pieceOr0", "(II)I"⟩ prog_13_method_37_code 4 (Option.some .int) ∈ zU := zu_t (zu_l6 (List.mem_of_getElem? (i := 77) rfl)) rfl
theorem zu_1278 : Cond.methodLink "HandToHandModel" 218 ⟨"HandToHandModel", "of", "(II)I"⟩ ∈ zU := zu_t (zu_l6 (List.mem_of_getElem? (i := 78) rfl)) rfl
theorem zu_1280 : Cond.instanceMethod ⟨"HandToHandModel", "of", "(II)I"⟩ ∈ zU := zu_t (zu_l6 (List.mem_of_getElem? (i := 80) rfl)) rfl
theorem zu_1281 : Cond.code ⟨"HandToHandModel", "of", "(II)I"⟩ prog_13_method_32_code 3 (Option.some .int) ∈ zU := zu_t (zu_l6 (List.mem_of_getElem? (i := 81) rfl)) rfl
theorem zu_1282 : Cond.methodLink "HandToHandModel" 225 ⟨"HandToHandModel", "takesOver", "(II)Z"⟩ ∈ zU := zu_t (zu_l6 (List.mem_of_getElem? (i := 82) rfl)) rfl
theorem zu_1284 : Cond.instanceMethod ⟨"HandToHandModel", "takesOver", "(II)Z"⟩ ∈ zU := zu_t (zu_l6 (List.mem_of_getElem? (i := 84) rfl)) rfl
theorem zu_1285 : Cond.code ⟨"HandToHandModel", "takesOver", "(II)Z"⟩ prog_13_method_42_code 5 (Option.some .boolean) ∈ zU := zu_t (zu_l6 (List.mem_of_getElem? (i := 85) rfl)) rfl
theorem zu_1286 : Cond.methodLink "HandToHandModel" 214 ⟨"HandToHandModel", "canBeLeft", "(II)Z"⟩ ∈ zU := zu_t (zu_l6 (List.mem_of_getElem? (i := 86) rfl)) rfl
theorem zu_1288 : Cond.instanceMethod ⟨"HandToHandModel", "canBeLeft", "(II)Z"⟩ ∈ zU := zu_t (zu_l6 (List.mem_of_getElem? (i := 88) rfl)) rfl
theorem zu_1289 : Cond.code ⟨"HandToHandModel", "canBeLeft", "(II)Z"⟩ prog_13_method_41_code 5 (Option.some .boolean) ∈ zU := zu_t (zu_l6 (List.mem_of_getElem? (i := 89) rfl)) rfl
theorem zu_1290 : Cond.methodLink "HandToHandModel" 228 ⟨"HandToHandModel", "mayBegin", "(II)Z"⟩ ∈ zU := zu_t (zu_l6 (List.mem_of_getElem? (i := 90) rfl)) rfl
theorem zu_1292 : Cond.instanceMethod ⟨"HandToHandModel", "mayBegin", "(II)Z"⟩ ∈ zU := zu_t (zu_l6 (List.mem_of_getElem? (i := 92) rfl)) rfl
theorem zu_1293 : Cond.code ⟨"HandToHandModel", "mayBegin", "(II)Z"⟩ prog_13_method_43_code 6 (Option.some .boolean) ∈ zU := zu_t (zu_l6 (List.mem_of_getElem? (i := 93) rfl)) rfl
theorem zu_1294 : Cond.methodLink "HandToHandModel" 231 ⟨"HandToHandModel", "ticksOf", "(III)I"⟩ ∈ zU := zu_t (zu_l6 (List.mem_of_getElem? (i := 94) rfl)) rfl
theorem zu_1296 : Cond.instanceMethod ⟨"HandToHandModel", "ticksOf", "(III)I"⟩ ∈ zU := zu_t (zu_l6 (List.mem_of_getElem? (i := 96) rfl)) rfl
theorem zu_1297 : Cond.code ⟨"HandToHandModel", "ticksOf", "(III)I"⟩ prog_13_method_35_code 5 (Option.some .int) ∈ zU := zu_t (zu_l6 (List.mem_of_getElem? (i := 97) rfl)) rfl
theorem zu_1298 : Cond.methodLink "HandToHandModel" 237 ⟨"HandToHandModel", "least", "(I)I"⟩ ∈ zU := zu_t (zu_l6 (List.mem_of_getElem? (i := 98) rfl)) rfl
theorem zu_1300 : Cond.instanceMethod ⟨"HandToHandModel", "least", "(I)I"⟩ ∈ zU := zu_t (zu_l6 (List.mem_of_getElem? (i := 100) rfl)) rfl
theorem zu_1301 : Cond.code ⟨"HandToHandModel", "least", "(I)I"⟩ prog_13_method_46_code 5 (Option.some .int) ∈ zU := zu_t (zu_l6 (List.mem_of_getElem? (i := 101) rfl)) rfl
theorem zu_1302 : Cond.methodLink "HandToHandLaw" 33 ⟨"HandToHandModel", "fault", "()I"⟩ ∈ zU := zu_t (zu_l6 (List.mem_of_getElem? (i := 102) rfl)) rfl
theorem zu_1303 : Cond.instanceMethod ⟨"HandToHandModel", "fault", "()I"⟩ ∈ zU := zu_t (zu_l6 (List.mem_of_getElem? (i := 103) rfl)) rfl
theorem zu_1304 : Cond.selects "HandToHandModel" ⟨"HandToHandModel", "fault", "()I"⟩ ⟨"HandToHandModel", "fault", "()I"⟩ ∈ zU := zu_t (zu_l6 (List.mem_of_getElem? (i := 104) rfl)) rfl
theorem zu_1305 : Cond.code ⟨"HandToHandModel", "fault", "()I"⟩ prog_13_method_21_code 1 (Option.some .int) ∈ zU := zu_t (zu_l6 (List.mem_of_getElem? (i := 105) rfl)) rfl
theorem zu_1306 : Cond.methodLink "HandToHandLaw" 37 ⟨"HandToHandModel", "rule", "(I)I"⟩ ∈ zU := zu_t (zu_l6 (List.mem_of_getElem? (i := 106) rfl)) rfl
theorem zu_1307 : Cond.instanceMethod ⟨"HandToHandModel", "rule", "(I)I"⟩ ∈ zU := zu_t (zu_l6 (List.mem_of_getElem? (i := 107) rfl)) rfl
theorem zu_1308 : Cond.selects "HandToHandModel" ⟨"HandToHandModel", "rule", "(I)I"⟩ ⟨"HandToHandModel", "rule", "(I)I"⟩ ∈ zU := zu_t (zu_l6 (List.mem_of_getElem? (i := 108) rfl)) rfl
theorem zu_1309 : Cond.code ⟨"HandToHandModel", "rule", "(I)I"⟩ prog_13_method_25_code 2 (Option.some .int) ∈ zU := zu_t (zu_l6 (List.mem_of_getElem? (i := 109) rfl)) rfl
theorem zu_1310 : Cond.constantLong "HandToHandModel" 162 (6 : Int64) ∈ zU := zu_t (zu_l6 (List.mem_of_getElem? (i := 110) rfl)) rfl
theorem zu_1311 : Cond.constantLong "HandToHandModel" 164 (10 : Int64) ∈ zU := zu_t (zu_l6 (List.mem_of_getElem? (i := 111) rfl)) rfl
theorem zu_1312 : Cond.methodLink "HandToHandModel" 166 ⟨"HandToHandModel", "isHand", "(I)Z"⟩ ∈ zU := zu_t (zu_l6 (List.mem_of_getElem? (i := 112) rfl)) rfl
theorem zu_1314 : Cond.instanceMethod ⟨"HandToHandModel", "isHand", "(I)Z"⟩ ∈ zU := zu_t (zu_l6 (List.mem_of_getElem? (i := 114) rfl)) rfl
theorem zu_1315 : Cond.code ⟨"HandToHandModel", "isHand", "(I)Z"⟩ prog_13_method_23_code 2 (Option.some .boolean) ∈ zU := zu_t (zu_l6 (List.mem_of_getElem? (i := 115) rfl)) rfl
theorem zu_1316 : Cond.methodLink "HandToHandLaw" 42 ⟨"HandToHandModel", "units", "(II)I"⟩ ∈ zU := zu_t (zu_l6 (List.mem_of_getElem? (i := 116) rfl)) rfl
theorem zu_1317 : Cond.instanceMethod ⟨"HandToHandModel", "units", "(II)I"⟩ ∈ zU := zu_t (zu_l6 (List.mem_of_getElem? (i := 117) rfl)) rfl
theorem zu_1318 : Cond.selects "HandToHandModel" ⟨"HandToHandModel", "units", "(II)I"⟩ ⟨"HandToHandModel", "units", "(II)I"⟩ ∈ zU := zu_t (zu_l6 (List.mem_of_getElem? (i := 118) rfl)) rfl
theorem zu_1319 : Cond.code ⟨"HandToHandModel", "units", "(II)I"⟩ prog_13_method_26_code 3 (Option.some .int) ∈ zU := zu_t (zu_l6 (List.mem_of_getElem? (i := 119) rfl)) rfl
theorem zu_1320 : Cond.methodLink "HandToHandModel" 175 ⟨"HandToHandModel", "isPiece", "(I)Z"⟩ ∈ zU := zu_t (zu_l6 (List.mem_of_getElem? (i := 120) rfl)) rfl
theorem zu_1322 : Cond.instanceMethod ⟨"HandToHandModel", "isPiece", "(I)Z"⟩ ∈ zU := zu_t (zu_l6 (List.mem_of_getElem? (i := 122) rfl)) rfl
theorem zu_1323 : Cond.code ⟨"HandToHandModel", "isPiece", "(I)Z"⟩ prog_13_method_22_code 2 (Option.some .boolean) ∈ zU := zu_t (zu_l6 (List.mem_of_getElem? (i := 123) rfl)) rfl
theorem zu_1324 : Cond.methodLink "HandToHandLaw" 46 ⟨"HandToHandModel", "pace", "(II)I"⟩ ∈ zU := zu_t (zu_l6 (List.mem_of_getElem? (i := 124) rfl)) rfl
theorem zu_1325 : Cond.instanceMethod ⟨"HandToHandModel", "pace", "(II)I"⟩ ∈ zU := zu_t (zu_l6 (List.mem_of_getElem? (i := 125) rfl)) rfl
theorem zu_1326 : Cond.selects "HandToHandModel" ⟨"HandToHandModel", "pace", "(II)I"⟩ ⟨"HandToHandModel", "pace", "(II)I"⟩ ∈ zU := zu_t (zu_l6 (List.mem_of_getElem? (i := 126) rfl)) rfl
theorem zu_1327 : Cond.code ⟨"HandToHandModel", "pace", "(II)I"⟩ prog_13_method_27_code 3 (Option.some .int) ∈ zU := zu_t (zu_l6 (List.mem_of_getElem? (i := 127) rfl)) rfl
theorem zu_1328 : Cond.methodLink "HandToHandLaw" 51 ⟨"HandToHandModel", "setPace", "(III)I"⟩ ∈ zU := zu_t (zu_l6 (List.mem_of_getElem? (i := 128) rfl)) rfl
theorem zu_1329 : Cond.instanceMethod ⟨"HandToHandModel", "setPace", "(III)I"⟩ ∈ zU := zu_t (zu_l6 (List.mem_of_getElem? (i := 129) rfl)) rfl
theorem zu_1330 : Cond.selects "HandToHandModel" ⟨"HandToHandModel", "setPace", "(III)I"⟩ ⟨"HandToHandModel", "setPace", "(III)I"⟩ ∈ zU := zu_t (zu_l6 (List.mem_of_getElem? (i := 130) rfl)) rfl
theorem zu_1331 : Cond.code ⟨"HandToHandModel", "setPace", "(III)I"⟩ prog_13_method_28_code 5 (Option.some .int) ∈ zU := zu_t (zu_l6 (List.mem_of_getElem? (i := 131) rfl)) rfl
theorem zu_1332 : Cond.constantLong "HandToHandModel" 178 (9 : Int64) ∈ zU := zu_t (zu_l6 (List.mem_of_getElem? (i := 132) rfl)) rfl
theorem zu_1333 : Cond.methodLink "HandToHandLaw" 55 ⟨"HandToHandModel", "begin", "()I"⟩ ∈ zU := zu_t (zu_l6 (List.mem_of_getElem? (i := 133) rfl)) rfl
theorem zu_1334 : Cond.instanceMethod ⟨"HandToHandModel", "begin", "()I"⟩ ∈ zU := zu_t (zu_l6 (List.mem_of_getElem? (i := 134) rfl)) rfl
theorem zu_1335 : Cond.selects "HandToHandModel" ⟨"HandToHandModel", "begin", "()I"⟩ ⟨"HandToHandModel", "begin", "()I"⟩ ∈ zU := zu_t (zu_l6 (List.mem_of_getElem? (i := 135) rfl)) rfl
theorem zu_1336 : Cond.code ⟨"HandToHandModel", "begin", "()I"⟩ prog_13_method_50_code 2 (Option.some .int) ∈ zU := zu_t (zu_l6 (List.mem_of_getElem? (i := 136) rfl)) rfl
theorem zu_1337 : Cond.methodLink "HandToHandLaw" 59 ⟨"HandToHandModel", "go", "(I)I"⟩ ∈ zU := zu_t (zu_l6 (List.mem_of_getElem? (i := 137) rfl)) rfl
theorem zu_1338 : Cond.instanceMethod ⟨"HandToHandModel", "go", "(I)I"⟩ ∈ zU := zu_t (zu_l6 (List.mem_of_getElem? (i := 138) rfl)) rfl
theorem zu_1339 : Cond.selects "HandToHandModel" ⟨"HandToHandModel", "go", "(I)I"⟩ ⟨"HandToHandModel", "go", "(I)I"⟩ ∈ zU := zu_t (zu_l6 (List.mem_of_getElem? (i := 139) rfl)) rfl
theorem zu_1340 : Cond.code ⟨"HandToHandModel", "go", "(I)I"⟩ prog_13_method_51_code 5 (Option.some .int) ∈ zU := zu_t (zu_l6 (List.mem_of_getElem? (i := 140) rfl)) rfl
theorem zu_1341 : Cond.constantLong "HandToHandModel" 252 (9999 : Int64) ∈ zU := zu_t (zu_l6 (List.mem_of_getElem? (i := 141) rfl)) rfl
theorem zu_1342 : Cond.methodLink "HandToHandModel" 254 ⟨"HandToHandModel", "pass", "(II)V"⟩ ∈ zU := zu_t (zu_l6 (List.mem_of_getElem? (i := 142) rfl)) rfl
theorem zu_1344 : Cond.instanceMethod ⟨"HandToHandModel", "pass", "(II)V"⟩ ∈ zU := zu_t (zu_l6 (List.mem_of_getElem? (i := 144) rfl)) rfl
theorem zu_1345 : Cond.code ⟨"HandToHandModel", "pass", "(II)V"⟩ prog_13_method_47_code 5 none ∈ zU := zu_t (zu_l6 (List.mem_of_getElem? (i := 145) rfl)) rfl
theorem zu_1346 : Cond.methodLink "HandToHandLaw" 63 ⟨"HandToHandModel", "night", "()I"⟩ ∈ zU := zu_t (zu_l6 (List.mem_of_getElem? (i := 146) rfl)) rfl
theorem zu_1347 : Cond.instanceMethod ⟨"HandToHandModel", "night", "()I"⟩ ∈ zU := zu_t (zu_l6 (List.mem_of_getElem? (i := 147) rfl)) rfl
theorem zu_1348 : Cond.selects "HandToHandModel" ⟨"HandToHandModel", "night", "()I"⟩ ⟨"HandToHandModel", "night", "()I"⟩ ∈ zU := zu_t (zu_l6 (List.mem_of_getElem? (i := 148) rfl)) rfl
theorem zu_1349 : Cond.code ⟨"HandToHandModel", "night", "()I"⟩ prog_13_method_52_code 3 (Option.some .int) ∈ zU := zu_t (zu_l6 (List.mem_of_getElem? (i := 149) rfl)) rfl
theorem zu_1350 : Cond.methodLink "HandToHandLaw" 67 ⟨"HandToHandModel", "now", "(I)I"⟩ ∈ zU := zu_t (zu_l6 (List.mem_of_getElem? (i := 150) rfl)) rfl
theorem zu_1351 : Cond.instanceMethod ⟨"HandToHandModel", "now", "(I)I"⟩ ∈ zU := zu_t (zu_l6 (List.mem_of_getElem? (i := 151) rfl)) rfl
theorem zu_1352 : Cond.selects "HandToHandModel" ⟨"HandToHandModel", "now", "(I)I"⟩ ⟨"HandToHandModel", "now", "(I)I"⟩ ∈ zU := zu_t (zu_l6 (List.mem_of_getElem? (i := 152) rfl)) rfl
theorem zu_1353 : Cond.code ⟨"HandToHandModel", "now", "(I)I"⟩ prog_13_method_53_code 2 (Option.some .int) ∈ zU := zu_t (zu_l6 (List.mem_of_getElem? (i := 153) rfl)) rfl
theorem zu_1354 : Cond.methodLink "HandToHandLaw" 71 ⟨"HandToHandModel", "hand", "(II)I"⟩ ∈ zU := zu_t (zu_l6 (List.mem_of_getElem? (i := 154) rfl)) rfl
theorem zu_1355 : Cond.instanceMethod ⟨"HandToHandModel", "hand", "(II)I"⟩ ∈ zU := zu_t (zu_l6 (List.mem_of_getElem? (i := 155) rfl)) rfl
theorem zu_1356 : Cond.selects "HandToHandModel" ⟨"HandToHandModel", "hand", "(II)I"⟩ ⟨"HandToHandModel", "hand", "(II)I"⟩ ∈ zU := zu_t (zu_l6 (List.mem_of_getElem? (i := 156) rfl)) rfl
theorem zu_1357 : Cond.code ⟨"HandToHandModel", "hand", "(II)I"⟩ prog_13_method_54_code 3 (Option.some .int) ∈ zU := zu_t (zu_l6 (List.mem_of_getElem? (i := 157) rfl)) rfl
theorem zu_1358 : Cond.constantLong "HandToHandModel" 257 (5 : Int64) ∈ zU := zu_t (zu_l6 (List.mem_of_getElem? (i := 158) rfl)) rfl
theorem zu_1359 : Cond.methodLink "HandToHandLaw" 75 ⟨"HandToHandModel", "learnt", "(II)I"⟩ ∈ zU := zu_t (zu_l6 (List.mem_of_getElem? (i := 159) rfl)) rfl
theorem zu_1360 : Cond.instanceMethod ⟨"HandToHandModel", "learnt", "(II)I"⟩ ∈ zU := zu_t (zu_l6 (List.mem_of_getElem? (i := 160) rfl)) rfl
theorem zu_1361 : Cond.selects "HandToHandModel" ⟨"HandToHandModel", "learnt", "(II)I"⟩ ⟨"HandToHandModel", "learnt", "(II)I"⟩ ∈ zU := zu_t (zu_l6 (List.mem_of_getElem? (i := 161) rfl)) rfl
theorem zu_1362 : Cond.code ⟨"HandToHandModel", "learnt", "(II)I"⟩ prog_13_method_55_code 3 (Option.some .int) ∈ zU := zu_t (zu_l6 (List.mem_of_getElem? (i := 162) rfl)) rfl
theorem zu_1363 : Cond.methodLink "HandToHandLaw" 79 ⟨"HandToHandModel", "takes", "(II)I"⟩ ∈ zU := zu_t (zu_l6 (List.mem_of_getElem? (i := 163) rfl)) rfl
theorem zu_1364 : Cond.instanceMethod ⟨"HandToHandModel", "takes", "(II)I"⟩ ∈ zU := zu_t (zu_l6 (List.mem_of_getElem? (i := 164) rfl)) rfl
theorem zu_1365 : Cond.selects "HandToHandModel" ⟨"HandToHandModel", "takes", "(II)I"⟩ ⟨"HandToHandModel", "takes", "(II)I"⟩ ∈ zU := zu_t (zu_l6 (List.mem_of_getElem? (i := 165) rfl)) rfl
theorem zu_1366 : Cond.code ⟨"HandToHandModel", "takes", "(II)I"⟩ prog_13_method_56_code 3 (Option.some .int) ∈ zU := zu_t (zu_l6 (List.mem_of_getElem? (i := 166) rfl)) rfl
theorem zu_1367 : Cond.methodLink "HandToHandLaw" 83 ⟨"HandToHandModel", "keep", "(I)I"⟩ ∈ zU := zu_t (zu_l6 (List.mem_of_getElem? (i := 167) rfl)) rfl
theorem zu_1368 : Cond.instanceMethod ⟨"HandToHandModel", "keep", "(I)I"⟩ ∈ zU := zu_t (zu_l6 (List.mem_of_getElem? (i := 168) rfl)) rfl
theorem zu_1369 : Cond.selects "HandToHandModel" ⟨"HandToHandModel", "keep", "(I)I"⟩ ⟨"HandToHandModel", "keep", "(I)I"⟩ ∈ zU := zu_t (zu_l6 (List.mem_of_getElem? (i := 169) rfl)) rfl
theorem zu_1370 : Cond.code ⟨"HandToHandModel", "keep", "(I)I"⟩ prog_13_method_57_code 3 (Option.some .int) ∈ zU := zu_t (zu_l6 (List.mem_of_getElem? (i := 170) rfl)) rfl
theorem zu_1371 : Cond.methodLink "HandToHandLaw" 87 ⟨"HandToHandModel", "back", "(I)I"⟩ ∈ zU := zu_t (zu_l6 (List.mem_of_getElem? (i := 171) rfl)) rfl
theorem zu_1372 : Cond.instanceMethod ⟨"HandToHandModel", "back", "(I)I"⟩ ∈ zU := zu_t (zu_l6 (List.mem_of_getElem? (i := 172) rfl)) rfl
theorem zu_1373 : Cond.selects "HandToHandModel" ⟨"HandToHandModel", "back", "(I)I"⟩ ⟨"HandToHandModel", "back", "(I)I"⟩ ∈ zU := zu_t (zu_l6 (List.mem_of_getElem? (i := 173) rfl)) rfl
theorem zu_1374 : Cond.code ⟨"HandToHandModel", "back", "(I)I"⟩ prog_13_method_58_code 3 (Option.some .int) ∈ zU := zu_t (zu_l6 (List.mem_of_getElem? (i := 174) rfl)) rfl
theorem zu_1375 : Cond.methodLink "HandToHandLaw" 91 ⟨"HandToHandModel", "run", "(II)I"⟩ ∈ zU := zu_t (zu_l6 (List.mem_of_getElem? (i := 175) rfl)) rfl
theorem zu_1376 : Cond.instanceMethod ⟨"HandToHandModel", "run", "(II)I"⟩ ∈ zU := zu_t (zu_l6 (List.mem_of_getElem? (i := 176) rfl)) rfl
theorem zu_1377 : Cond.selects "HandToHandModel" ⟨"HandToHandModel", "run", "(II)I"⟩ ⟨"HandToHandModel", "run", "(II)I"⟩ ∈ zU := zu_t (zu_l6 (List.mem_of_getElem? (i := 177) rfl)) rfl
theorem zu_1378 : Cond.code ⟨"HandToHandModel", "run", "(II)I"⟩ prog_13_method_64_code 7 (Option.some .int) ∈ zU := zu_t (zu_l6 (List.mem_of_getElem? (i := 178) rfl)) rfl
theorem zu_1379 : Cond.methodLink "HandToHandModel" 279 ⟨"HandToHandModel", "isRun", "(I)Z"⟩ ∈ zU := zu_t (zu_l6 (List.mem_of_getElem? (i := 179) rfl)) rfl
theorem zu_1380 : Cond.static ⟨"HandToHandModel", "isRun", "(I)Z"⟩ ∈ zU := zu_t (zu_l6 (List.mem_of_getElem? (i := 180) rfl)) rfl
theorem zu_1381 : Cond.code ⟨"HandToHandModel", "isRun", "(I)Z"⟩ prog_13_method_63_code 1 (Option.some .boolean) ∈ zU := zu_t (zu_l6 (List.mem_of_getElem? (i := 181) rfl)) rfl
theorem zu_1382 : Cond.constantLong "HandToHandModel" 277 (120 : Int64) ∈ zU := zu_t (zu_l6 (List.mem_of_getElem? (i := 182) rfl)) rfl
theorem zu_1383 : Cond.methodLink "HandToHandModel" 282 ⟨"HandToHandModel", "runs", "(IZ)V"⟩ ∈ zU := zu_t (zu_l6 (List.mem_of_getElem? (i := 183) rfl)) rfl
theorem zu_1385 : Cond.instanceMethod ⟨"HandToHandModel", "runs", "(IZ)V"⟩ ∈ zU := zu_t (zu_l6 (List.mem_of_getElem? (i := 185) rfl)) rfl
theorem zu_1386 : Cond.code ⟨"HandToHandModel", "runs", "(IZ)V"⟩ prog_13_method_62_code 4 none ∈ zU := zu_t (zu_l6 (List.mem_of_getElem? (i := 186) rfl)) rfl
theorem zu_1387 : Cond.methodLink "HandToHandModel" 268 ⟨"HandToHandModel", "laySeen", "()V"⟩ ∈ zU := zu_t (zu_l6 (List.mem_of_getElem? (i := 187) rfl)) rfl
theorem zu_1389 : Cond.instanceMethod ⟨"HandToHandModel", "laySeen", "()V"⟩ ∈ zU := zu_t (zu_l6 (List.mem_of_getElem? (i := 189) rfl)) rfl
theorem zu_1390 : Cond.code ⟨"HandToHandModel", "laySeen", "()V"⟩ prog_13_method_59_code 6 none ∈ zU := zu_t (zu_l6 (List.mem_of_getElem? (i := 190) rfl)) rfl
theorem zu_1391 : Cond.methodLink "HandToHandModel" 271 ⟨"HandToHandModel", "earlier", "()I"⟩ ∈ zU := zu_t (zu_l6 (List.mem_of_getElem? (i := 191) rfl)) rfl
theorem zu_1393 : Cond.instanceMethod ⟨"HandToHandModel", "earlier", "()I"⟩ ∈ zU := zu_t (zu_l6 (List.mem_of_getElem? (i := 193) rfl)) rfl
theorem zu_1394 : Cond.code ⟨"HandToHandModel", "earlier", "()I"⟩ prog_13_method_61_code 2 (Option.some .int) ∈ zU := zu_t (zu_l6 (List.mem_of_getElem? (i := 194) rfl)) rfl
theorem zu_1395 : Cond.methodLink "HandToHandModel" 262 ⟨"HandToHandModel", "areSame", "(II)Z"⟩ ∈ zU := zu_t (zu_l6 (List.mem_of_getElem? (i := 195) rfl)) rfl
theorem zu_1397 : Cond.instanceMethod ⟨"HandToHandModel", "areSame", "(II)Z"⟩ ∈ zU := zu_t (zu_l6 (List.mem_of_getElem? (i := 197) rfl)) rfl
theorem zu_1398 : Cond.code ⟨"HandToHandModel", "areSame", "(II)Z"⟩ prog_13_method_60_code 5 (Option.some .boolean) ∈ zU := zu_t (zu_l6 (List.mem_of_getElem? (i := 198) rfl)) rfl
theorem zu_1399 : Cond.methodLink "HandToHandLaw" 95 ⟨"HandToHandModel", "waits", "(II)I"⟩ ∈ zU := zu_t (zu_l6 (List.mem_of_getElem? (i := 199) rfl)) rfl
theorem zu_1400 : Cond.instanceMethod ⟨"HandToHandModel", "waits", "(II)I"⟩ ∈ zU := zu_t (zu_l6 (List.mem_of_getElem? (i := 200) rfl)) rfl
theorem zu_1401 : Cond.selects "HandToHandModel" ⟨"HandToHandModel", "waits", "(II)I"⟩ ⟨"HandToHandModel", "waits", "(II)I"⟩ ∈ zU := zu_t (zu_l6 (List.mem_of_getElem? (i := 201) rfl)) rfl
theorem zu_1402 : Cond.code ⟨"HandToHandModel", "waits", "(II)I"⟩ prog_13_method_65_code 3 (Option.some .int) ∈ zU := zu_t (zu_l6 (List.mem_of_getElem? (i := 202) rfl)) rfl
theorem zu_1403 : Cond.methodLink "HandToHandLaw" 99 ⟨"HandToHandModel", "over", "(III)I"⟩ ∈ zU := zu_t (zu_l6 (List.mem_of_getElem? (i := 203) rfl)) rfl
theorem zu_1404 : Cond.instanceMethod ⟨"HandToHandModel", "over", "(III)I"⟩ ∈ zU := zu_t (zu_l6 (List.mem_of_getElem? (i := 204) rfl)) rfl
theorem zu_1405 : Cond.selects "HandToHandModel" ⟨"HandToHandModel", "over", "(III)I"⟩ ⟨"HandToHandModel", "over", "(III)I"⟩ ∈ zU := zu_t (zu_l6 (List.mem_of_getElem? (i := 205) rfl)) rfl
theorem zu_1406 : Cond.code ⟨"HandToHandModel", "over", "(III)I"⟩ prog_13_method_67_code 4 (Option.some .int) ∈ zU := zu_t (zu_l6 (List.mem_of_getElem? (i := 206) rfl)) rfl
theorem zu_1407 : Cond.methodLink "HandToHandModel" 286 ⟨"HandToHandModel", "oversKept", "()I"⟩ ∈ zU := zu_t (zu_l6 (List.mem_of_getElem? (i := 207) rfl)) rfl
theorem zu_1409 : Cond.instanceMethod ⟨"HandToHandModel", "oversKept", "()I"⟩ ∈ zU := zu_t (zu_l6 (List.mem_of_getElem? (i := 209) rfl)) rfl
theorem zu_1410 : Cond.code ⟨"HandToHandModel", "oversKept", "()I"⟩ prog_13_method_66_code 1 (Option.some .int) ∈ zU := zu_t (zu_l6 (List.mem_of_getElem? (i := 210) rfl)) rfl
theorem zu_1411 : Cond.methodLink "HandToHandLaw" 104 ⟨"HandToHandModel", "judge", "(IIIII)I"⟩ ∈ zU := zu_t (zu_l6 (List.mem_of_getElem? (i := 211) rfl)) rfl
theorem zu_1412 : Cond.instanceMethod ⟨"HandToHandModel", "judge", "(IIIII)I"⟩ ∈ zU := zu_t (zu_l6 (List.mem_of_getElem? (i := 212) rfl)) rfl
theorem zu_1413 : Cond.selects "HandToHandModel" ⟨"HandToHandModel", "judge", "(IIIII)I"⟩ ⟨"HandToHandModel", "judge", "(IIIII)I"⟩ ∈ zU := zu_t (zu_l6 (List.mem_of_getElem? (i := 213) rfl)) rfl
theorem zu_1414 : Cond.code ⟨"HandToHandModel", "judge", "(IIIII)I"⟩ prog_13_method_68_code 6 (Option.some .int) ∈ zU := zu_t (zu_l6 (List.mem_of_getElem? (i := 214) rfl)) rfl
theorem zu_1415 : Cond.methodLink "HandToHandLaw" 108 ⟨"HandToHandModel", "settles", "(I)I"⟩ ∈ zU := zu_t (zu_l6 (List.mem_of_getElem? (i := 215) rfl)) rfl
theorem zu_1416 : Cond.instanceMethod ⟨"HandToHandModel", "settles", "(I)I"⟩ ∈ zU := zu_t (zu_l6 (List.mem_of_getElem? (i := 216) rfl)) rfl
theorem zu_1417 : Cond.selects "HandToHandModel" ⟨"HandToHandModel", "settles", "(I)I"⟩ ⟨"HandToHandModel", "settles", "(I)I"⟩ ∈ zU := zu_t (zu_l6 (List.mem_of_getElem? (i := 217) rfl)) rfl
theorem zu_1418 : Cond.code ⟨"HandToHandModel", "settles", "(I)I"⟩ prog_13_method_70_code 2 (Option.some .int) ∈ zU := zu_t (zu_l6 (List.mem_of_getElem? (i := 218) rfl)) rfl
theorem zu_1419 : Cond.methodLink "HandToHandModel" 295 ⟨"HandToHandModel", "hasRing", "()Z"⟩ ∈ zU := zu_t (zu_l6 (List.mem_of_getElem? (i := 219) rfl)) rfl
theorem zu_1421 : Cond.instanceMethod ⟨"HandToHandModel", "hasRing", "()Z"⟩ ∈ zU := zu_t (zu_l6 (List.mem_of_getElem? (i := 221) rfl)) rfl
theorem zu_1422 : Cond.code ⟨"HandToHandModel", "hasRing", "()Z"⟩ prog_13_method_69_code 1 (Option.some .boolean) ∈ zU := zu_t (zu_l6 (List.mem_of_getElem? (i := 222) rfl)) rfl
theorem zu_1423 : Cond.methodLink "HandToHandLaw" 112 ⟨"HandToHandModel", "where", "(II)I"⟩ ∈ zU := zu_t (zu_l6 (List.mem_of_getElem? (i := 223) rfl)) rfl
theorem zu_1424 : Cond.instanceMethod ⟨"HandToHandModel", "where", "(II)I"⟩ ∈ zU := zu_t (zu_l6 (List.mem_of_getElem? (i := 224) rfl)) rfl
theorem zu_1425 : Cond.selects "HandToHandModel" ⟨"HandToHandModel", "where", "(II)I"⟩ ⟨"HandToHandModel", "where", "(II)I"⟩ ∈ zU := zu_t (zu_l6 (List.mem_of_getElem? (i := 225) rfl)) rfl
theorem zu_1426 : Cond.code ⟨"HandToHandModel", "where", "(II)I"⟩ prog_13_method_71_code 7 (Option.some .int) ∈ zU := zu_t (zu_l6 (List.mem_of_getElem? (i := 226) rfl)) rfl
theorem zu_1427 : Cond.constantLong "HandToHandModel" 299 (3 : Int64) ∈ zU := zu_t (zu_l6 (List.mem_of_getElem? (i := 227) rfl)) rfl
theorem zu_1428 : Cond.methodLink "HandToHandLaw" 116 ⟨"HandToHandModel", "makes", "(I)I"⟩ ∈ zU := zu_t (zu_l6 (List.mem_of_getElem? (i := 228) rfl)) rfl
theorem zu_1429 : Cond.instanceMethod ⟨"HandToHandModel", "makes", "(I)I"⟩ ∈ zU := zu_t (zu_l6 (List.mem_of_getElem? (i := 229) rfl)) rfl
theorem zu_1430 : Cond.selects "HandToHandModel" ⟨"HandToHandModel", "makes", "(I)I"⟩ ⟨"HandToHandModel", "makes", "(I)I"⟩ ∈ zU := zu_t (zu_l6 (List.mem_of_getElem? (i := 230) rfl)) rfl
theorem zu_1431 : Cond.code ⟨"HandToHandModel", "makes", "(I)I"⟩ prog_13_method_74_code 2 (Option.some .int) ∈ zU := zu_t (zu_l6 (List.mem_of_getElem? (i := 231) rfl)) rfl
theorem zu_1432 : Cond.methodLink "HandToHandModel" 305 ⟨"HandToHandModel", "made", "(I)I"⟩ ∈ zU := zu_t (zu_l6 (List.mem_of_getElem? (i := 232) rfl)) rfl
theorem zu_1434 : Cond.instanceMethod ⟨"HandToHandModel", "made", "(I)I"⟩ ∈ zU := zu_t (zu_l6 (List.mem_of_getElem? (i := 234) rfl)) rfl
theorem zu_1435 : Cond.code ⟨"HandToHandModel", "made", "(I)I"⟩ prog_13_method_73_code 2 (Option.some .int) ∈ zU := zu_t (zu_l6 (List.mem_of_getElem? (i := 235) rfl)) rfl
theorem zu_1436 : Cond.methodLink "HandToHandModel" 301 ⟨"HandToHandModel", "lowest", "(JJI)J"⟩ ∈ zU := zu_t (zu_l6 (List.mem_of_getElem? (i := 236) rfl)) rfl
theorem zu_1437 : Cond.static ⟨"HandToHandModel", "lowest", "(JJI)J"⟩ ∈ zU := zu_t (zu_l6 (List.mem_of_getElem? (i := 237) rfl)) rfl
theorem zu_1438 : Cond.code ⟨"HandToHandModel", "lowest", "(JJI)J"⟩ prog_13_method_72_code 11 (Option.some .long) ∈ zU := zu_t (zu_l6 (List.mem_of_getElem? (i := 238) rfl)) rfl
theorem zu_1439 : Cond.methodLink "HandToHandLaw" 121 ⟨"HandToHandModel", "could", "(I)J"⟩ ∈ zU := zu_t (zu_l6 (List.mem_of_getElem? (i := 239) rfl)) rfl
theorem zu_1440 : Cond.instanceMethod ⟨"HandToHandModel", "could", "(I)J"⟩ ∈ zU := zu_t (zu_l7 (List.mem_of_getElem? (i := 0) rfl)) rfl
theorem zu_1441 : Cond.selects "HandToHandModel" ⟨"HandToHandModel", "could", "(I)J"⟩ ⟨"HandToHandModel", "could", "(I)J"⟩ ∈ zU := zu_t (zu_l7 (List.mem_of_getElem? (i := 1) rfl)) rfl
theorem zu_1442 : Cond.code ⟨"HandToHandModel", "could", "(I)J"⟩ prog_13_method_75_code 13 (Option.some .long) ∈ zU := zu_t (zu_l7 (List.mem_of_getElem? (i := 2) rfl)) rfl
theorem zu_1443 : Cond.constantLong "HandToHandModel" 308 (-1 : Int64) ∈ zU := zu_t (zu_l7 (List.mem_of_getElem? (i := 3) rfl)) rfl
theorem zu_1444 : Cond.methodLink "HandToHandLaw" 125 ⟨"HandToHandModel", "order", "(II)I"⟩ ∈ zU := zu_t (zu_l7 (List.mem_of_getElem? (i := 4) rfl)) rfl
theorem zu_1445 : Cond.instanceMethod ⟨"HandToHandModel", "order", "(II)I"⟩ ∈ zU := zu_t (zu_l7 (List.mem_of_getElem? (i := 5) rfl)) rfl
theorem zu_1446 : Cond.selects "HandToHandModel" ⟨"HandToHandModel", "order", "(II)I"⟩ ⟨"HandToHandModel", "order", "(II)I"⟩ ∈ zU := zu_t (zu_l7 (List.mem_of_getElem? (i := 6) rfl)) rfl
theorem zu_1447 : Cond.code ⟨"HandToHandModel", "order", "(II)I"⟩ prog_13_method_79_code 3 (Option.some .int) ∈ zU := zu_t (zu_l7 (List.mem_of_getElem? (i := 7) rfl)) rfl
theorem zu_1448 : Cond.methodLink "HandToHandModel" 313 ⟨"HandToHandModel", "isOrder", "(I)Z"⟩ ∈ zU := zu_t (zu_l7 (List.mem_of_getElem? (i := 8) rfl)) rfl
theorem zu_1450 : Cond.instanceMethod ⟨"HandToHandModel", "isOrder", "(I)Z"⟩ ∈ zU := zu_t (zu_l7 (List.mem_of_getElem? (i := 10) rfl)) rfl
theorem zu_1451 : Cond.code ⟨"HandToHandModel", "isOrder", "(I)Z"⟩ prog_13_method_78_code 2 (Option.some .boolean) ∈ zU := zu_t (zu_l7 (List.mem_of_getElem? (i := 11) rfl)) rfl
theorem zu_1452 : Cond.methodLink "HandToHandModel" 310 ⟨"HandToHandModel", "orders", "()I"⟩ ∈ zU := zu_t (zu_l7 (List.mem_of_getElem? (i := 12) rfl)) rfl
theorem zu_1454 : Cond.instanceMethod ⟨"HandToHandModel", "orders", "()I"⟩ ∈ zU := zu_t (zu_l7 (List.mem_of_getElem? (i := 14) rfl)) rfl
theorem zu_1455 : Cond.code ⟨"HandToHandModel", "orders", "()I"⟩ prog_13_method_76_code 3 (Option.some .int) ∈ zU := zu_t (zu_l7 (List.mem_of_getElem? (i := 15) rfl)) rfl
theorem zu_1456 : Cond.methodLink "HandToHandModel" 316 ⟨"HandToHandModel", "layOrder", "(I)V"⟩ ∈ zU := zu_t (zu_l7 (List.mem_of_getElem? (i := 16) rfl)) rfl
theorem zu_1458 : Cond.instanceMethod ⟨"HandToHandModel", "layOrder", "(I)V"⟩ ∈ zU := zu_t (zu_l7 (List.mem_of_getElem? (i := 18) rfl)) rfl
theorem zu_1459 : Cond.code ⟨"HandToHandModel", "layOrder", "(I)V"⟩ prog_13_method_77_code 8 none ∈ zU := zu_t (zu_l7 (List.mem_of_getElem? (i := 19) rfl)) rfl
theorem zu_1460 : Cond.methodLink "HandToHandLaw" 129 ⟨"HandToHandModel", "best", "(I)I"⟩ ∈ zU := zu_t (zu_l7 (List.mem_of_getElem? (i := 20) rfl)) rfl
theorem zu_1461 : Cond.instanceMethod ⟨"HandToHandModel", "best", "(I)I"⟩ ∈ zU := zu_t (zu_l7 (List.mem_of_getElem? (i := 21) rfl)) rfl
theorem zu_1462 : Cond.selects "HandToHandModel" ⟨"HandToHandModel", "best", "(I)I"⟩ ⟨"HandToHandModel", "best", "(I)I"⟩ ∈ zU := zu_t (zu_l7 (List.mem_of_getElem? (i := 22) rfl)) rfl
theorem zu_1463 : Cond.code ⟨"HandToHandModel", "best", "(I)I"⟩ prog_13_method_82_code 5 (Option.some .int) ∈ zU := zu_t (zu_l7 (List.mem_of_getElem? (i := 23) rfl)) rfl
theorem zu_1464 : Cond.methodLink "HandToHandModel" 325 ⟨"HandToHandModel", "isMore", "()Z"⟩ ∈ zU := zu_t (zu_l7 (List.mem_of_getElem? (i := 24) rfl)) rfl
theorem zu_1466 : Cond.instanceMethod ⟨"HandToHandModel", "isMore", "()Z"⟩ ∈ zU := zu_t (zu_l7 (List.mem_of_getElem? (i := 26) rfl)) rfl
theorem zu_1467 : Cond.code ⟨"HandToHandModel", "isMore", "()Z"⟩ prog_13_method_80_code 1 (Option.some .boolean) ∈ zU := zu_t (zu_l7 (List.mem_of_getElem? (i := 27) rfl)) rfl
theorem zu_1468 : Cond.methodLink "HandToHandModel" 328 ⟨"HandToHandModel", "keepBest", "()V"⟩ ∈ zU := zu_t (zu_l7 (List.mem_of_getElem? (i := 28) rfl)) rfl
theorem zu_1470 : Cond.instanceMethod ⟨"HandToHandModel", "keepBest", "()V"⟩ ∈ zU := zu_t (zu_l7 (List.mem_of_getElem? (i := 30) rfl)) rfl
theorem zu_1471 : Cond.code ⟨"HandToHandModel", "keepBest", "()V"⟩ prog_13_method_81_code 1 none ∈ zU := zu_t (zu_l7 (List.mem_of_getElem? (i := 31) rfl)) rfl
theorem zu_1472 : Cond.methodLink "HandToHandLaw" 133 ⟨"HandToHandModel", "stands", "(II)I"⟩ ∈ zU := zu_t (zu_l7 (List.mem_of_getElem? (i := 32) rfl)) rfl
theorem zu_1473 : Cond.instanceMethod ⟨"HandToHandModel", "stands", "(II)I"⟩ ∈ zU := zu_t (zu_l7 (List.mem_of_getElem? (i := 33) rfl)) rfl
theorem zu_1474 : Cond.selects "HandToHandModel" ⟨"HandToHandModel", "stands", "(II)I"⟩ ⟨"HandToHandModel", "stands", "(II)I"⟩ ∈ zU := zu_t (zu_l7 (List.mem_of_getElem? (i := 34) rfl)) rfl
theorem zu_1475 : Cond.code ⟨"HandToHandModel", "stands", "(II)I"⟩ prog_13_method_83_code 3 (Option.some .int) ∈ zU := zu_t (zu_l7 (List.mem_of_getElem? (i := 35) rfl)) rfl
theorem zu_1476 : Cond.methodLink "HandToHandLaw" 137 ⟨"HandToHandModel", "parts", "(I)I"⟩ ∈ zU := zu_t (zu_l7 (List.mem_of_getElem? (i := 36) rfl)) rfl
theorem zu_1477 : Cond.instanceMethod ⟨"HandToHandModel", "parts", "(I)I"⟩ ∈ zU := zu_t (zu_l7 (List.mem_of_getElem? (i := 37) rfl)) rfl
theorem zu_1478 : Cond.selects "HandToHandModel" ⟨"HandToHandModel", "parts", "(I)I"⟩ ⟨"HandToHandModel", "parts", "(I)I"⟩ ∈ zU := zu_t (zu_l7 (List.mem_of_getElem? (i := 38) rfl)) rfl
theorem zu_1479 : Cond.code ⟨"HandToHandModel", "parts", "(I)I"⟩ prog_13_method_84_code 6 (Option.some .int) ∈ zU := zu_t (zu_l7 (List.mem_of_getElem? (i := 39) rfl)) rfl
theorem zu_1480 : Cond.methodLink "HandToHandModel" 331 ⟨"HandToHandModel", "isLike", "()Z"⟩ ∈ zU := zu_t (zu_l7 (List.mem_of_getElem? (i := 40) rfl)) rfl
theorem zu_1482 : Cond.instanceMethod ⟨"HandToHandModel", "isLike", "()Z"⟩ ∈ zU := zu_t (zu_l7 (List.mem_of_getElem? (i := 42) rfl)) rfl
theorem zu_1483 : Cond.code ⟨"HandToHandModel", "isLike", "()Z"⟩ prog_13_method_85_code 1 (Option.some .boolean) ∈ zU := zu_t (zu_l7 (List.mem_of_getElem? (i := 43) rfl)) rfl
theorem zu_1484 : Cond.methodLink "HandToHandModel" 334 ⟨"HandToHandModel", "areLess", "()Z"⟩ ∈ zU := zu_t (zu_l7 (List.mem_of_getElem? (i := 44) rfl)) rfl
theorem zu_1486 : Cond.instanceMethod ⟨"HandToHandModel", "areLess", "()Z"⟩ ∈ zU := zu_t (zu_l7 (List.mem_of_getElem? (i := 46) rfl)) rfl
theorem zu_1487 : Cond.code ⟨"HandToHandModel", "areLess", "()Z"⟩ prog_13_method_86_code 2 (Option.some .boolean) ∈ zU := zu_t (zu_l7 (List.mem_of_getElem? (i := 47) rfl)) rfl
theorem zu_1488 : Cond.methodLink "HandToHandLaw" 141 ⟨"HandToHandModel", "less", "(II)I"⟩ ∈ zU := zu_t (zu_l7 (List.mem_of_getElem? (i := 48) rfl)) rfl
theorem zu_1489 : Cond.instanceMethod ⟨"HandToHandModel", "less", "(II)I"⟩ ∈ zU := zu_t (zu_l7 (List.mem_of_getElem? (i := 49) rfl)) rfl
theorem zu_1490 : Cond.selects "HandToHandModel" ⟨"HandToHandModel", "less", "(II)I"⟩ ⟨"HandToHandModel", "less", "(II)I"⟩ ∈ zU := zu_t (zu_l7 (List.mem_of_getElem? (i := 50) rfl)) rfl
theorem zu_1491 : Cond.code ⟨"HandToHandModel", "less", "(II)I"⟩ prog_13_method_87_code 4 (Option.some .int) ∈ zU := zu_t (zu_l7 (List.mem_of_getElem? (i := 51) rfl)) rfl
theorem zu_1492 : Cond.methodLink "HandToHandLaw" 145 ⟨"HandToHandModel", "sheet", "(III)I"⟩ ∈ zU := zu_t (zu_l7 (List.mem_of_getElem? (i := 52) rfl)) rfl
theorem zu_1493 : Cond.instanceMethod ⟨"HandToHandModel", "sheet", "(III)I"⟩ ∈ zU := zu_t (zu_l7 (List.mem_of_getElem? (i := 53) rfl)) rfl
theorem zu_1494 : Cond.selects "HandToHandModel" ⟨"HandToHandModel", "sheet", "(III)I"⟩ ⟨"HandToHandModel", "sheet", "(III)I"⟩ ∈ zU := zu_t (zu_l7 (List.mem_of_getElem? (i := 54) rfl)) rfl
theorem zu_1495 : Cond.code ⟨"HandToHandModel", "sheet", "(III)I"⟩ prog_13_method_88_code 5 (Option.some .int) ∈ zU := zu_t (zu_l7 (List.mem_of_getElem? (i := 55) rfl)) rfl
theorem zu_1496 : Cond.methodLink "HandToHandLaw" 149 ⟨"HandToHandModel", "lay", "(III)I"⟩ ∈ zU := zu_t (zu_l7 (List.mem_of_getElem? (i := 56) rfl)) rfl
theorem zu_1497 : Cond.instanceMethod ⟨"HandToHandModel", "lay", "(III)I"⟩ ∈ zU := zu_t (zu_l7 (List.mem_of_getElem? (i := 57) rfl)) rfl
theorem zu_1498 : Cond.selects "HandToHandModel" ⟨"HandToHandModel", "lay", "(III)I"⟩ ⟨"HandToHandModel", "lay", "(III)I"⟩ ∈ zU := zu_t (zu_l7 (List.mem_of_getElem? (i := 58) rfl)) rfl
theorem zu_1499 : Cond.code ⟨"HandToHandModel", "lay", "(III)I"⟩ prog_13_method_89_code 4 (Option.some .int) ∈ zU := zu_t (zu_l7 (List.mem_of_getElem? (i := 59) rfl)) rfl
theorem zu_1500 : Cond.methodLink "HandToHandLaw" 153 ⟨"HandToHandModel", "read", "(IIIII)I"⟩ ∈ zU := zu_t (zu_l7 (List.mem_of_getElem? (i := 60) rfl)) rfl
theorem zu_1501 : Cond.instanceMethod ⟨"HandToHandModel", "read", "(IIIII)I"⟩ ∈ zU := zu_t (zu_l7 (List.mem_of_getElem? (i := 61) rfl)) rfl
theorem zu_1502 : Cond.selects "HandToHandModel" ⟨"HandToHandModel", "read", "(IIIII)I"⟩ ⟨"HandToHandModel", "read", "(IIIII)I"⟩ ∈ zU := zu_t (zu_l7 (List.mem_of_getElem? (i := 62) rfl)) rfl
theorem zu_1503 : Cond.code ⟨"HandToHandModel", "read", "(IIIII)I"⟩ prog_13_method_90_code 10 (Option.some .int) ∈ zU := zu_t (zu_l7 (List.mem_of_getElem? (i := 63) rfl)) rfl
theorem zu_1504 : Cond.methodLink "HandToHandLaw" 157 ⟨"HandToHandModel", "torn", "()I"⟩ ∈ zU := zu_t (zu_l7 (List.mem_of_getElem? (i := 64) rfl)) rfl
theorem zu_1505 : Cond.instanceMethod ⟨"HandToHandModel", "torn", "()I"⟩ ∈ zU := zu_t (zu_l7 (List.mem_of_getElem? (i := 65) rfl)) rfl
theorem zu_1506 : Cond.selects "HandToHandModel" ⟨"HandToHandModel", "torn", "()I"⟩ ⟨"HandToHandModel", "torn", "()I"⟩ ∈ zU := zu_t (zu_l7 (List.mem_of_getElem? (i := 66) rfl)) rfl
theorem zu_1507 : Cond.code ⟨"HandToHandModel", "torn", "()I"⟩ prog_13_method_91_code 1 (Option.some .int) ∈ zU := zu_t (zu_l7 (List.mem_of_getElem? (i := 67) rfl)) rfl
theorem zu_1508 : Cond.methodLink "HandToHandLaw" 161 ⟨"HandToHandModel", "count", "(I)I"⟩ ∈ zU := zu_t (zu_l7 (List.mem_of_getElem? (i := 68) rfl)) rfl
theorem zu_1509 : Cond.instanceMethod ⟨"HandToHandModel", "count", "(I)I"⟩ ∈ zU := zu_t (zu_l7 (List.mem_of_getElem? (i := 69) rfl)) rfl
theorem zu_1510 : Cond.selects "HandToHandModel" ⟨"HandToHandModel", "count", "(I)I"⟩ ⟨"HandToHandModel", "count", "(I)I"⟩ ∈ zU := zu_t (zu_l7 (List.mem_of_getElem? (i := 70) rfl)) rfl
theorem zu_1511 : Cond.code ⟨"HandToHandModel", "count", "(I)I"⟩ prog_13_method_92_code 2 (Option.some .int) ∈ zU := zu_t (zu_l7 (List.mem_of_getElem? (i := 71) rfl)) rfl
theorem zu_1512 : Cond.constantLong "HandToHandLaw" 13 (4294967295 : Int64) ∈ zU := zu_t (zu_l7 (List.mem_of_getElem? (i := 72) rfl)) rfl
theorem zu_1513 : Cond.fieldLink "java/lang/String" 9 "java/lang/String" "value" "[B" ∈ zU := zu_t (zu_l7 (List.mem_of_getElem? (i := 73) rfl)) rfl
theorem zu_1514 : Cond.fieldLink "java/lang/String" 15 "java/lang/String" "coder" "B" ∈ zU := zu_t (zu_l7 (List.mem_of_getElem? (i := 74) rfl)) rfl
theorem zu_q0 {q : MethodName × Nat} (h : q ∈ lw_privs_1) : q ∈ lw_privs := List.mem_append_left _ h
theorem zs_0 : Cond.selects "HandToHand$Bench" ⟨"HandToHand$Bench", "act", "(I)Z"⟩ ⟨"HandToHand$Bench", "act", "(I)Z"⟩ ∈ zU := zu_s (q := (⟨"HandToHand$Bench", "act", "(I)Z"⟩, 14)) (zu_q0 (List.mem_of_getElem? (i := 0) rfl)) rfl
theorem zs_1 : Cond.selects "HandToHand$Bench" ⟨"HandToHand$Bench", "finishUnit", "(I)Z"⟩ ⟨"HandToHand$Bench", "finishUnit", "(I)Z"⟩ ∈ zU := zu_s (q := (⟨"HandToHand$Bench", "finishUnit", "(I)Z"⟩, 14)) (zu_q0 (List.mem_of_getElem? (i := 1) rfl)) rfl
theorem zs_2 : Cond.selects "HandToHand$Bench" ⟨"HandToHand$Bench", "goBack", "(II)V"⟩ ⟨"HandToHand$Bench", "goBack", "(II)V"⟩ ∈ zU := zu_s (q := (⟨"HandToHand$Bench", "goBack", "(II)V"⟩, 14)) (zu_q0 (List.mem_of_getElem? (i := 2) rfl)) rfl
theorem zs_3 : Cond.selects "HandToHand$Bench" ⟨"HandToHand$Bench", "takeNewCoat", "()Z"⟩ ⟨"HandToHand$Bench", "takeNewCoat", "()Z"⟩ ∈ zU := zu_s (q := (⟨"HandToHand$Bench", "takeNewCoat", "()Z"⟩, 14)) (zu_q0 (List.mem_of_getElem? (i := 3) rfl)) rfl
theorem zs_4 : Cond.selects "HandToHand$Bench" ⟨"HandToHand$Bench", "takeOver", "(I)Z"⟩ ⟨"HandToHand$Bench", "takeOver", "(I)Z"⟩ ∈ zU := zu_s (q := (⟨"HandToHand$Bench", "takeOver", "(I)Z"⟩, 14)) (zu_q0 (List.mem_of_getElem? (i := 4) rfl)) rfl
theorem zs_5 : Cond.selects "HandToHand$Bench" ⟨"HandToHand$Bench", "startUnit", "(I)Z"⟩ ⟨"HandToHand$Bench", "startUnit", "(I)Z"⟩ ∈ zU := zu_s (q := (⟨"HandToHand$Bench", "startUnit", "(I)Z"⟩, 14)) (zu_q0 (List.mem_of_getElem? (i := 5) rfl)) rfl
theorem zs_6 : Cond.selects "HandToHand$Bench" ⟨"HandToHand$Bench", "isHeldBy", "(II)Z"⟩ ⟨"HandToHand$Bench", "isHeldBy", "(II)Z"⟩ ∈ zU := zu_s (q := (⟨"HandToHand$Bench", "isHeldBy", "(II)Z"⟩, 14)) (zu_q0 (List.mem_of_getElem? (i := 6) rfl)) rfl
theorem zs_7 : Cond.selects "HandToHand$Reader" ⟨"HandToHand$Reader", "readToken", "()Z"⟩ ⟨"HandToHand$Reader", "readToken", "()Z"⟩ ∈ zU := zu_s (q := (⟨"HandToHand$Reader", "readToken", "()Z"⟩, 14)) (zu_q0 (List.mem_of_getElem? (i := 7) rfl)) rfl
theorem zs_8 : Cond.selects "HandToHand$Reader" ⟨"HandToHand$Reader", "isLetter", "(I)Z"⟩ ⟨"HandToHand$Reader", "isLetter", "(I)Z"⟩ ∈ zU := zu_s (q := (⟨"HandToHand$Reader", "isLetter", "(I)Z"⟩, 14)) (zu_q0 (List.mem_of_getElem? (i := 8) rfl)) rfl
theorem zs_9 : Cond.selects "HandToHand$Reader" ⟨"HandToHand$Reader", "readName", "()Z"⟩ ⟨"HandToHand$Reader", "readName", "()Z"⟩ ∈ zU := zu_s (q := (⟨"HandToHand$Reader", "readName", "()Z"⟩, 14)) (zu_q0 (List.mem_of_getElem? (i := 9) rfl)) rfl
theorem zs_10 : Cond.selects "HandToHand$Reader" ⟨"HandToHand$Reader", "refuse", "(II)Z"⟩ ⟨"HandToHand$Reader", "refuse", "(II)Z"⟩ ∈ zU := zu_s (q := (⟨"HandToHand$Reader", "refuse", "(II)Z"⟩, 14)) (zu_q0 (List.mem_of_getElem? (i := 10) rfl)) rfl
theorem zs_11 : Cond.selects "HandToHand$Reader" ⟨"HandToHand$Reader", "isFigure", "(I)Z"⟩ ⟨"HandToHand$Reader", "isFigure", "(I)Z"⟩ ∈ zU := zu_s (q := (⟨"HandToHand$Reader", "isFigure", "(I)Z"⟩, 14)) (zu_q0 (List.mem_of_getElem? (i := 11) rfl)) rfl
theorem zs_12 : Cond.selects "HandToHand$Reader" ⟨"HandToHand$Reader", "readFigures", "()Z"⟩ ⟨"HandToHand$Reader", "readFigures", "()Z"⟩ ∈ zU := zu_s (q := (⟨"HandToHand$Reader", "readFigures", "()Z"⟩, 14)) (zu_q0 (List.mem_of_getElem? (i := 12) rfl)) rfl
theorem zs_13 : Cond.selects "HandToHand$Reader" ⟨"HandToHand$Reader", "readLine", "()Z"⟩ ⟨"HandToHand$Reader", "readLine", "()Z"⟩ ∈ zU := zu_s (q := (⟨"HandToHand$Reader", "readLine", "()Z"⟩, 14)) (zu_q0 (List.mem_of_getElem? (i := 13) rfl)) rfl
theorem zs_14 : Cond.selects "HandToHand$Reader" ⟨"HandToHand$Reader", "readPiece", "()Z"⟩ ⟨"HandToHand$Reader", "readPiece", "()Z"⟩ ∈ zU := zu_s (q := (⟨"HandToHand$Reader", "readPiece", "()Z"⟩, 14)) (zu_q0 (List.mem_of_getElem? (i := 14) rfl)) rfl
theorem zs_15 : Cond.selects "HandToHand$Reader" ⟨"HandToHand$Reader", "readNumber", "(II)Z"⟩ ⟨"HandToHand$Reader", "readNumber", "(II)Z"⟩ ∈ zU := zu_s (q := (⟨"HandToHand$Reader", "readNumber", "(II)Z"⟩, 14)) (zu_q0 (List.mem_of_getElem? (i := 15) rfl)) rfl
theorem zu_q1 {q : MethodName × Nat} (h : q ∈ lw_privs_2) : q ∈ lw_privs := List.mem_append_right _ (List.mem_append_left _ h)
theorem zs_16 : Cond.selects "HandToHand$Reader" ⟨"HandToHand$Reader", "isWithin", "(II)Z"⟩ ⟨"HandToHand$Reader", "isWithin", "(II)Z"⟩ ∈ zU := zu_s (q := (⟨"HandToHand$Reader", "isWithin", "(II)Z"⟩, 14)) (zu_q1 (List.mem_of_getElem? (i := 0) rfl)) rfl
theorem zs_17 : Cond.selects "HandToHand$Reader" ⟨"HandToHand$Reader", "readSign", "()Z"⟩ ⟨"HandToHand$Reader", "readSign", "()Z"⟩ ∈ zU := zu_s (q := (⟨"HandToHand$Reader", "readSign", "()Z"⟩, 14)) (zu_q1 (List.mem_of_getElem? (i := 1) rfl)) rfl
theorem zs_18 : Cond.selects "HandToHand$Reader" ⟨"HandToHand$Reader", "isSign", "()Z"⟩ ⟨"HandToHand$Reader", "isSign", "()Z"⟩ ∈ zU := zu_s (q := (⟨"HandToHand$Reader", "isSign", "()Z"⟩, 14)) (zu_q1 (List.mem_of_getElem? (i := 2) rfl)) rfl
theorem zs_19 : Cond.selects "HandToHand$Reader" ⟨"HandToHand$Reader", "readWhole", "()Z"⟩ ⟨"HandToHand$Reader", "readWhole", "()Z"⟩ ∈ zU := zu_s (q := (⟨"HandToHand$Reader", "readWhole", "()Z"⟩, 14)) (zu_q1 (List.mem_of_getElem? (i := 3) rfl)) rfl
theorem zs_20 : Cond.selects "HandToHand$Reader" ⟨"HandToHand$Reader", "readSort", "()Z"⟩ ⟨"HandToHand$Reader", "readSort", "()Z"⟩ ∈ zU := zu_s (q := (⟨"HandToHand$Reader", "readSort", "()Z"⟩, 14)) (zu_q1 (List.mem_of_getElem? (i := 4) rfl)) rfl
theorem zs_21 : Cond.selects "HandToHand$Reader" ⟨"HandToHand$Reader", "readHand", "()Z"⟩ ⟨"HandToHand$Reader", "readHand", "()Z"⟩ ∈ zU := zu_s (q := (⟨"HandToHand$Reader", "readHand", "()Z"⟩, 14)) (zu_q1 (List.mem_of_getElem? (i := 5) rfl)) rfl
theorem zs_22 : Cond.selects "HandToHand$Reader" ⟨"HandToHand$Reader", "readOnce", "(I)Z"⟩ ⟨"HandToHand$Reader", "readOnce", "(I)Z"⟩ ∈ zU := zu_s (q := (⟨"HandToHand$Reader", "readOnce", "(I)Z"⟩, 14)) (zu_q1 (List.mem_of_getElem? (i := 6) rfl)) rfl
theorem zs_23 : Cond.selects "HandToHand$Reader" ⟨"HandToHand$Reader", "readRow", "()Z"⟩ ⟨"HandToHand$Reader", "readRow", "()Z"⟩ ∈ zU := zu_s (q := (⟨"HandToHand$Reader", "readRow", "()Z"⟩, 14)) (zu_q1 (List.mem_of_getElem? (i := 7) rfl)) rfl
theorem zs_24 : Cond.selects "HandToHand$Reader" ⟨"HandToHand$Reader", "readWalk", "()Z"⟩ ⟨"HandToHand$Reader", "readWalk", "()Z"⟩ ∈ zU := zu_s (q := (⟨"HandToHand$Reader", "readWalk", "()Z"⟩, 14)) (zu_q1 (List.mem_of_getElem? (i := 8) rfl)) rfl
theorem zs_25 : Cond.selects "HandToHand$Reader" ⟨"HandToHand$Reader", "readLearn", "()Z"⟩ ⟨"HandToHand$Reader", "readLearn", "()Z"⟩ ∈ zU := zu_s (q := (⟨"HandToHand$Reader", "readLearn", "()Z"⟩, 14)) (zu_q1 (List.mem_of_getElem? (i := 9) rfl)) rfl
theorem zs_26 : Cond.selects "HandToHand$Reader" ⟨"HandToHand$Reader", "readEnds", "(I)Z"⟩ ⟨"HandToHand$Reader", "readEnds", "(I)Z"⟩ ∈ zU := zu_s (q := (⟨"HandToHand$Reader", "readEnds", "(I)Z"⟩, 14)) (zu_q1 (List.mem_of_getElem? (i := 10) rfl)) rfl
theorem zs_27 : Cond.selects "HandToHand$Reader" ⟨"HandToHand$Reader", "isComplete", "()Z"⟩ ⟨"HandToHand$Reader", "isComplete", "()Z"⟩ ∈ zU := zu_s (q := (⟨"HandToHand$Reader", "isComplete", "()Z"⟩, 14)) (zu_q1 (List.mem_of_getElem? (i := 11) rfl)) rfl
theorem zs_28 : Cond.selects "HandToHand" ⟨"HandToHand", "forgetAnswers", "()V"⟩ ⟨"HandToHand", "forgetAnswers", "()V"⟩ ∈ zU := zu_s (q := (⟨"HandToHand", "forgetAnswers", "()V"⟩, 14)) (zu_q1 (List.mem_of_getElem? (i := 12) rfl)) rfl
theorem zs_29 : Cond.selects "HandToHand" ⟨"HandToHand", "isPiece", "(I)Z"⟩ ⟨"HandToHand", "isPiece", "(I)Z"⟩ ∈ zU := zu_s (q := (⟨"HandToHand", "isPiece", "(I)Z"⟩, 14)) (zu_q1 (List.mem_of_getElem? (i := 13) rfl)) rfl
theorem zs_30 : Cond.selects "HandToHand" ⟨"HandToHand", "isHand", "(I)Z"⟩ ⟨"HandToHand", "isHand", "(I)Z"⟩ ∈ zU := zu_s (q := (⟨"HandToHand", "isHand", "(I)Z"⟩, 14)) (zu_q1 (List.mem_of_getElem? (i := 14) rfl)) rfl
theorem zs_31 : Cond.selects "HandToHand" ⟨"HandToHand", "findRing", "()V"⟩ ⟨"HandToHand", "findRing", "()V"⟩ ∈ zU := zu_s (q := (⟨"HandToHand", "findRing", "()V"⟩, 14)) (zu_q1 (List.mem_of_getElem? (i := 15) rfl)) rfl
theorem zu_q2 {q : MethodName × Nat} (h : q ∈ lw_privs_3) : q ∈ lw_privs := List.mem_append_right _ (List.mem_append_right _ (List.mem_append_left _ h))
theorem zs_32 : Cond.selects "HandToHand$Settling" ⟨"HandToHand$Settling", "writeDown", "(LHandToHand$Told;)V"⟩ ⟨"HandToHand$Settling", "writeDown", "(LHandToHand$Told;)V"⟩ ∈ zU := zu_s (q := (⟨"HandToHand$Settling", "writeDown", "(LHandToHand$Told;)V"⟩, 5)) (zu_q2 (List.mem_of_getElem? (i := 0) rfl)) rfl
theorem zs_33 : Cond.selects "HandToHand$Settling" ⟨"HandToHand$Settling", "clearOthers", "(ILHandToHand$Told;)V"⟩ ⟨"HandToHand$Settling", "clearOthers", "(ILHandToHand$Told;)V"⟩ ∈ zU := zu_s (q := (⟨"HandToHand$Settling", "clearOthers", "(ILHandToHand$Told;)V"⟩, 5)) (zu_q2 (List.mem_of_getElem? (i := 1) rfl)) rfl
theorem zs_34 : Cond.selects "HandToHand$Settling" ⟨"HandToHand$Settling", "earlierAlike", "()I"⟩ ⟨"HandToHand$Settling", "earlierAlike", "()I"⟩ ∈ zU := zu_s (q := (⟨"HandToHand$Settling", "earlierAlike", "()I"⟩, 5)) (zu_q2 (List.mem_of_getElem? (i := 2) rfl)) rfl
theorem zs_35 : Cond.selects "HandToHand" ⟨"HandToHand", "isOrder", "(I)Z"⟩ ⟨"HandToHand", "isOrder", "(I)Z"⟩ ∈ zU := zu_s (q := (⟨"HandToHand", "isOrder", "(I)Z"⟩, 14)) (zu_q2 (List.mem_of_getElem? (i := 3) rfl)) rfl
theorem zs_36 : Cond.selects "HandToHand" ⟨"HandToHand", "findOrder", "(I)V"⟩ ⟨"HandToHand", "findOrder", "(I)V"⟩ ∈ zU := zu_s (q := (⟨"HandToHand", "findOrder", "(I)V"⟩, 14)) (zu_q2 (List.mem_of_getElem? (i := 4) rfl)) rfl
theorem zs_37 : Cond.selects "HandToHand$Orders" ⟨"HandToHand$Orders", "unusedHand", "(III)I"⟩ ⟨"HandToHand$Orders", "unusedHand", "(III)I"⟩ ∈ zU := zu_s (q := (⟨"HandToHand$Orders", "unusedHand", "(III)I"⟩, 3)) (zu_q2 (List.mem_of_getElem? (i := 5) rfl)) rfl
theorem zs_38 : Cond.selects "HandToHand" ⟨"HandToHand", "findParts", "()V"⟩ ⟨"HandToHand", "findParts", "()V"⟩ ∈ zU := zu_s (q := (⟨"HandToHand", "findParts", "()V"⟩, 14)) (zu_q2 (List.mem_of_getElem? (i := 6) rfl)) rfl
theorem zs_39 : Cond.selects "HandToHand" ⟨"HandToHand", "hasPacesAlone", "(LHandToHand$Sheet;I)Z"⟩ ⟨"HandToHand", "hasPacesAlone", "(LHandToHand$Sheet;I)Z"⟩ ∈ zU := zu_s (q := (⟨"HandToHand", "hasPacesAlone", "(LHandToHand$Sheet;I)Z"⟩, 14)) (zu_q2 (List.mem_of_getElem? (i := 7) rfl)) rfl
theorem zs_40 : Cond.selects "HandToHand" ⟨"HandToHand", "copyPaces", "(LHandToHand$Sheet;II)V"⟩ ⟨"HandToHand", "copyPaces", "(LHandToHand$Sheet;II)V"⟩ ∈ zU := zu_s (q := (⟨"HandToHand", "copyPaces", "(LHandToHand$Sheet;II)V"⟩, 14)) (zu_q2 (List.mem_of_getElem? (i := 8) rfl)) rfl
theorem zs_41 : Cond.selects "HandToHandModel" ⟨"HandToHandModel", "next", "()V"⟩ ⟨"HandToHandModel", "next", "()V"⟩ ∈ zU := zu_s (q := (⟨"HandToHandModel", "next", "()V"⟩, 40)) (zu_q2 (List.mem_of_getElem? (i := 9) rfl)) rfl
theorem zs_42 : Cond.selects "HandToHandModel" ⟨"HandToHandModel", "byteAt", "(I)I"⟩ ⟨"HandToHandModel", "byteAt", "(I)I"⟩ ∈ zU := zu_s (q := (⟨"HandToHandModel", "byteAt", "(I)I"⟩, 40)) (zu_q2 (List.mem_of_getElem? (i := 10) rfl)) rfl
theorem zs_43 : Cond.selects "HandToHandModel" ⟨"HandToHandModel", "nameAt", "(II)I"⟩ ⟨"HandToHandModel", "nameAt", "(II)I"⟩ ∈ zU := zu_s (q := (⟨"HandToHandModel", "nameAt", "(II)I"⟩, 40)) (zu_q2 (List.mem_of_getElem? (i := 11) rfl)) rfl
theorem zs_44 : Cond.selects "HandToHandModel" ⟨"HandToHandModel", "fails", "(I)V"⟩ ⟨"HandToHandModel", "fails", "(I)V"⟩ ∈ zU := zu_s (q := (⟨"HandToHandModel", "fails", "(I)V"⟩, 40)) (zu_q2 (List.mem_of_getElem? (i := 12) rfl)) rfl
theorem zs_45 : Cond.selects "HandToHandModel" ⟨"HandToHandModel", "readLine", "()V"⟩ ⟨"HandToHandModel", "readLine", "()V"⟩ ∈ zU := zu_s (q := (⟨"HandToHandModel", "readLine", "()V"⟩, 40)) (zu_q2 (List.mem_of_getElem? (i := 13) rfl)) rfl
theorem zs_46 : Cond.selects "HandToHandModel" ⟨"HandToHandModel", "readPiece", "()V"⟩ ⟨"HandToHandModel", "readPiece", "()V"⟩ ∈ zU := zu_s (q := (⟨"HandToHandModel", "readPiece", "()V"⟩, 40)) (zu_q2 (List.mem_of_getElem? (i := 14) rfl)) rfl
theorem zs_47 : Cond.selects "HandToHandModel" ⟨"HandToHandModel", "number", "(II)I"⟩ ⟨"HandToHandModel", "number", "(II)I"⟩ ∈ zU := zu_s (q := (⟨"HandToHandModel", "number", "(II)I"⟩, 40)) (zu_q2 (List.mem_of_getElem? (i := 15) rfl)) rfl
theorem zu_q3 {q : MethodName × Nat} (h : q ∈ lw_privs_4) : q ∈ lw_privs := List.mem_append_right _ (List.mem_append_right _ (List.mem_append_right _ (List.mem_append_left _ h)))
theorem zs_48 : Cond.selects "HandToHandModel" ⟨"HandToHandModel", "readWhole", "()V"⟩ ⟨"HandToHandModel", "readWhole", "()V"⟩ ∈ zU := zu_s (q := (⟨"HandToHandModel", "readWhole", "()V"⟩, 40)) (zu_q3 (List.mem_of_getElem? (i := 0) rfl)) rfl
theorem zs_49 : Cond.selects "HandToHandModel" ⟨"HandToHandModel", "readSort", "()V"⟩ ⟨"HandToHandModel", "readSort", "()V"⟩ ∈ zU := zu_s (q := (⟨"HandToHandModel", "readSort", "()V"⟩, 40)) (zu_q3 (List.mem_of_getElem? (i := 1) rfl)) rfl
theorem zs_50 : Cond.selects "HandToHandModel" ⟨"HandToHandModel", "numbers", "(IIII)V"⟩ ⟨"HandToHandModel", "numbers", "(IIII)V"⟩ ∈ zU := zu_s (q := (⟨"HandToHandModel", "numbers", "(IIII)V"⟩, 40)) (zu_q3 (List.mem_of_getElem? (i := 2) rfl)) rfl
theorem zs_51 : Cond.selects "HandToHandModel" ⟨"HandToHandModel", "readRow", "()V"⟩ ⟨"HandToHandModel", "readRow", "()V"⟩ ∈ zU := zu_s (q := (⟨"HandToHandModel", "readRow", "()V"⟩, 40)) (zu_q3 (List.mem_of_getElem? (i := 3) rfl)) rfl
theorem zs_52 : Cond.selects "HandToHandModel" ⟨"HandToHandModel", "readHand", "()V"⟩ ⟨"HandToHandModel", "readHand", "()V"⟩ ∈ zU := zu_s (q := (⟨"HandToHandModel", "readHand", "()V"⟩, 40)) (zu_q3 (List.mem_of_getElem? (i := 4) rfl)) rfl
theorem zs_53 : Cond.selects "HandToHandModel" ⟨"HandToHandModel", "readEnds", "()V"⟩ ⟨"HandToHandModel", "readEnds", "()V"⟩ ∈ zU := zu_s (q := (⟨"HandToHandModel", "readEnds", "()V"⟩, 40)) (zu_q3 (List.mem_of_getElem? (i := 5) rfl)) rfl
theorem zs_54 : Cond.selects "HandToHandModel" ⟨"HandToHandModel", "wholeFault", "()I"⟩ ⟨"HandToHandModel", "wholeFault", "()I"⟩ ∈ zU := zu_s (q := (⟨"HandToHandModel", "wholeFault", "()I"⟩, 40)) (zu_q3 (List.mem_of_getElem? (i := 6) rfl)) rfl
theorem zs_55 : Cond.selects "HandToHandModel" ⟨"HandToHandModel", "beginAnew", "()V"⟩ ⟨"HandToHandModel", "beginAnew", "()V"⟩ ∈ zU := zu_s (q := (⟨"HandToHandModel", "beginAnew", "()V"⟩, 40)) (zu_q3 (List.mem_of_getElem? (i := 7) rfl)) rfl
theorem zs_56 : Cond.selects "HandToHandModel" ⟨"HandToHandModel", "clear", "(I)V"⟩ ⟨"HandToHandModel", "clear", "(I)V"⟩ ∈ zU := zu_s (q := (⟨"HandToHandModel", "clear", "(I)V"⟩, 40)) (zu_q3 (List.mem_of_getElem? (i := 8) rfl)) rfl
theorem zs_57 : Cond.selects "HandToHandModel" ⟨"HandToHandModel", "awake", "()V"⟩ ⟨"HandToHandModel", "awake", "()V"⟩ ∈ zU := zu_s (q := (⟨"HandToHandModel", "awake", "()V"⟩, 40)) (zu_q3 (List.mem_of_getElem? (i := 9) rfl)) rfl
theorem zs_58 : Cond.selects "HandToHandModel" ⟨"HandToHandModel", "asNumbered", "()V"⟩ ⟨"HandToHandModel", "asNumbered", "()V"⟩ ∈ zU := zu_s (q := (⟨"HandToHandModel", "asNumbered", "()V"⟩, 40)) (zu_q3 (List.mem_of_getElem? (i := 10) rfl)) rfl
theorem zs_59 : Cond.selects "HandToHandModel" ⟨"HandToHandModel", "endOf", "(I)I"⟩ ⟨"HandToHandModel", "endOf", "(I)I"⟩ ∈ zU := zu_s (q := (⟨"HandToHandModel", "endOf", "(I)I"⟩, 40)) (zu_q3 (List.mem_of_getElem? (i := 11) rfl)) rfl
theorem zs_60 : Cond.selects "HandToHandModel" ⟨"HandToHandModel", "settle", "(I)V"⟩ ⟨"HandToHandModel", "settle", "(I)V"⟩ ∈ zU := zu_s (q := (⟨"HandToHandModel", "settle", "(I)V"⟩, 40)) (zu_q3 (List.mem_of_getElem? (i := 12) rfl)) rfl
theorem zs_61 : Cond.selects "HandToHandModel" ⟨"HandToHandModel", "does", "(II)Z"⟩ ⟨"HandToHandModel", "does", "(II)Z"⟩ ∈ zU := zu_s (q := (⟨"HandToHandModel", "does", "(II)Z"⟩, 40)) (zu_q3 (List.mem_of_getElem? (i := 13) rfl)) rfl
theorem zs_62 : Cond.selects "HandToHandModel" ⟨"HandToHandModel", "at", "(III)I"⟩ ⟨"HandToHandModel", "at", "(III)I"⟩ ∈ zU := zu_s (q := (⟨"HandToHandModel", "at", "(III)I"⟩, 40)) (zu_q3 (List.mem_of_getElem? (i := 14) rfl)) rfl
theorem zs_63 : Cond.selects "HandToHandModel" ⟨"HandToHandModel", "endsUnit", "(II)V"⟩ ⟨"HandToHandModel", "endsUnit", "(II)V"⟩ ∈ zU := zu_s (q := (⟨"HandToHandModel", "endsUnit", "(II)V"⟩, 40)) (zu_q3 (List.mem_of_getElem? (i := 15) rfl)) rfl
theorem zu_q4 {q : MethodName × Nat} (h : q ∈ lw_privs_5) : q ∈ lw_privs := List.mem_append_right _ (List.mem_append_right _ (List.mem_append_right _ (List.mem_append_right _ (List.mem_append_left _ h))))
theorem zs_64 : Cond.selects "HandToHandModel" ⟨"HandToHandModel", "learntAt", "(III)I"⟩ ⟨"HandToHandModel", "learntAt", "(III)I"⟩ ∈ zU := zu_s (q := (⟨"HandToHandModel", "learntAt", "(III)I"⟩, 40)) (zu_q4 (List.mem_of_getElem? (i := 0) rfl)) rfl
theorem zs_65 : Cond.selects "HandToHandModel" ⟨"HandToHandModel", "put", "(IIII)V"⟩ ⟨"HandToHandModel", "put", "(IIII)V"⟩ ∈ zU := zu_s (q := (⟨"HandToHandModel", "put", "(IIII)V"⟩, 40)) (zu_q4 (List.mem_of_getElem? (i := 1) rfl)) rfl
theorem zs_66 : Cond.selects "HandToHandModel" ⟨"HandToHandModel", "pieceFrom", "(II)I"⟩ ⟨"HandToHandModel", "pieceFrom", "(II)I"⟩ ∈ zU := zu_s (q := (⟨"HandToHandModel", "pieceFrom", "(II)I"⟩, 40)) (zu_q4 (List.mem_of_getElem? (i := 2) rfl)) rfl
theorem zs_67 : Cond.selects "HandToHandModel" ⟨"HandToHandModel", "more", "(III)V"⟩ ⟨"HandToHandModel", "more", "(III)V"⟩ ∈ zU := zu_s (q := (⟨"HandToHandModel", "more", "(III)V"⟩, 40)) (zu_q4 (List.mem_of_getElem? (i := 3) rfl)) rfl
theorem zs_68 : Cond.selects "HandToHandModel" ⟨"HandToHandModel", "goesBack", "(III)V"⟩ ⟨"HandToHandModel", "goesBack", "(III)V"⟩ ∈ zU := zu_s (q := (⟨"HandToHandModel", "goesBack", "(III)V"⟩, 40)) (zu_q4 (List.mem_of_getElem? (i := 4) rfl)) rfl
theorem zs_69 : Cond.selects "HandToHandModel" ⟨"HandToHandModel", "pieceOr0", "(II)I"⟩ ⟨"HandToHandModel", "pieceOr0", "(II)I"⟩ ∈ zU := zu_s (q := (⟨"HandToHandModel", "pieceOr0", "(II)I"⟩, 40)) (zu_q4 (List.mem_of_getElem? (i := 5) rfl)) rfl
theorem zs_70 : Cond.selects "HandToHandModel" ⟨"HandToHandModel", "of", "(II)I"⟩ ⟨"HandToHandModel", "of", "(II)I"⟩ ∈ zU := zu_s (q := (⟨"HandToHandModel", "of", "(II)I"⟩, 40)) (zu_q4 (List.mem_of_getElem? (i := 6) rfl)) rfl
theorem zs_71 : Cond.selects "HandToHandModel" ⟨"HandToHandModel", "takesOver", "(II)Z"⟩ ⟨"HandToHandModel", "takesOver", "(II)Z"⟩ ∈ zU := zu_s (q := (⟨"HandToHandModel", "takesOver", "(II)Z"⟩, 40)) (zu_q4 (List.mem_of_getElem? (i := 7) rfl)) rfl
theorem zs_72 : Cond.selects "HandToHandModel" ⟨"HandToHandModel", "canBeLeft", "(II)Z"⟩ ⟨"HandToHandModel", "canBeLeft", "(II)Z"⟩ ∈ zU := zu_s (q := (⟨"HandToHandModel", "canBeLeft", "(II)Z"⟩, 40)) (zu_q4 (List.mem_of_getElem? (i := 8) rfl)) rfl
theorem zs_73 : Cond.selects "HandToHandModel" ⟨"HandToHandModel", "mayBegin", "(II)Z"⟩ ⟨"HandToHandModel", "mayBegin", "(II)Z"⟩ ∈ zU := zu_s (q := (⟨"HandToHandModel", "mayBegin", "(II)Z"⟩, 40)) (zu_q4 (List.mem_of_getElem? (i := 9) rfl)) rfl
theorem zs_74 : Cond.selects "HandToHandModel" ⟨"HandToHandModel", "ticksOf", "(III)I"⟩ ⟨"HandToHandModel", "ticksOf", "(III)I"⟩ ∈ zU := zu_s (q := (⟨"HandToHandModel", "ticksOf", "(III)I"⟩, 40)) (zu_q4 (List.mem_of_getElem? (i := 10) rfl)) rfl
theorem zs_75 : Cond.selects "HandToHandModel" ⟨"HandToHandModel", "least", "(I)I"⟩ ⟨"HandToHandModel", "least", "(I)I"⟩ ∈ zU := zu_s (q := (⟨"HandToHandModel", "least", "(I)I"⟩, 40)) (zu_q4 (List.mem_of_getElem? (i := 11) rfl)) rfl
theorem zs_76 : Cond.selects "HandToHandModel" ⟨"HandToHandModel", "isHand", "(I)Z"⟩ ⟨"HandToHandModel", "isHand", "(I)Z"⟩ ∈ zU := zu_s (q := (⟨"HandToHandModel", "isHand", "(I)Z"⟩, 40)) (zu_q4 (List.mem_of_getElem? (i := 12) rfl)) rfl
theorem zs_77 : Cond.selects "HandToHandModel" ⟨"HandToHandModel", "isPiece", "(I)Z"⟩ ⟨"HandToHandModel", "isPiece", "(I)Z"⟩ ∈ zU := zu_s (q := (⟨"HandToHandModel", "isPiece", "(I)Z"⟩, 40)) (zu_q4 (List.mem_of_getElem? (i := 13) rfl)) rfl
theorem zs_78 : Cond.selects "HandToHandModel" ⟨"HandToHandModel", "pass", "(II)V"⟩ ⟨"HandToHandModel", "pass", "(II)V"⟩ ∈ zU := zu_s (q := (⟨"HandToHandModel", "pass", "(II)V"⟩, 40)) (zu_q4 (List.mem_of_getElem? (i := 14) rfl)) rfl
theorem zs_79 : Cond.selects "HandToHandModel" ⟨"HandToHandModel", "runs", "(IZ)V"⟩ ⟨"HandToHandModel", "runs", "(IZ)V"⟩ ∈ zU := zu_s (q := (⟨"HandToHandModel", "runs", "(IZ)V"⟩, 40)) (zu_q4 (List.mem_of_getElem? (i := 15) rfl)) rfl
theorem zu_q5 {q : MethodName × Nat} (h : q ∈ lw_privs_6) : q ∈ lw_privs := List.mem_append_right _ (List.mem_append_right _ (List.mem_append_right _ (List.mem_append_right _ (List.mem_append_right _ (h)))))
theorem zs_80 : Cond.selects "HandToHandModel" ⟨"HandToHandModel", "laySeen", "()V"⟩ ⟨"HandToHandModel", "laySeen", "()V"⟩ ∈ zU := zu_s (q := (⟨"HandToHandModel", "laySeen", "()V"⟩, 40)) (zu_q5 (List.mem_of_getElem? (i := 0) rfl)) rfl
theorem zs_81 : Cond.selects "HandToHandModel" ⟨"HandToHandModel", "earlier", "()I"⟩ ⟨"HandToHandModel", "earlier", "()I"⟩ ∈ zU := zu_s (q := (⟨"HandToHandModel", "earlier", "()I"⟩, 40)) (zu_q5 (List.mem_of_getElem? (i := 1) rfl)) rfl
theorem zs_82 : Cond.selects "HandToHandModel" ⟨"HandToHandModel", "areSame", "(II)Z"⟩ ⟨"HandToHandModel", "areSame", "(II)Z"⟩ ∈ zU := zu_s (q := (⟨"HandToHandModel", "areSame", "(II)Z"⟩, 40)) (zu_q5 (List.mem_of_getElem? (i := 2) rfl)) rfl
theorem zs_83 : Cond.selects "HandToHandModel" ⟨"HandToHandModel", "oversKept", "()I"⟩ ⟨"HandToHandModel", "oversKept", "()I"⟩ ∈ zU := zu_s (q := (⟨"HandToHandModel", "oversKept", "()I"⟩, 40)) (zu_q5 (List.mem_of_getElem? (i := 3) rfl)) rfl
theorem zs_84 : Cond.selects "HandToHandModel" ⟨"HandToHandModel", "hasRing", "()Z"⟩ ⟨"HandToHandModel", "hasRing", "()Z"⟩ ∈ zU := zu_s (q := (⟨"HandToHandModel", "hasRing", "()Z"⟩, 40)) (zu_q5 (List.mem_of_getElem? (i := 4) rfl)) rfl
theorem zs_85 : Cond.selects "HandToHandModel" ⟨"HandToHandModel", "made", "(I)I"⟩ ⟨"HandToHandModel", "made", "(I)I"⟩ ∈ zU := zu_s (q := (⟨"HandToHandModel", "made", "(I)I"⟩, 40)) (zu_q5 (List.mem_of_getElem? (i := 5) rfl)) rfl
theorem zs_86 : Cond.selects "HandToHandModel" ⟨"HandToHandModel", "isOrder", "(I)Z"⟩ ⟨"HandToHandModel", "isOrder", "(I)Z"⟩ ∈ zU := zu_s (q := (⟨"HandToHandModel", "isOrder", "(I)Z"⟩, 40)) (zu_q5 (List.mem_of_getElem? (i := 6) rfl)) rfl
theorem zs_87 : Cond.selects "HandToHandModel" ⟨"HandToHandModel", "orders", "()I"⟩ ⟨"HandToHandModel", "orders", "()I"⟩ ∈ zU := zu_s (q := (⟨"HandToHandModel", "orders", "()I"⟩, 40)) (zu_q5 (List.mem_of_getElem? (i := 7) rfl)) rfl
theorem zs_88 : Cond.selects "HandToHandModel" ⟨"HandToHandModel", "layOrder", "(I)V"⟩ ⟨"HandToHandModel", "layOrder", "(I)V"⟩ ∈ zU := zu_s (q := (⟨"HandToHandModel", "layOrder", "(I)V"⟩, 40)) (zu_q5 (List.mem_of_getElem? (i := 8) rfl)) rfl
theorem zs_89 : Cond.selects "HandToHandModel" ⟨"HandToHandModel", "isMore", "()Z"⟩ ⟨"HandToHandModel", "isMore", "()Z"⟩ ∈ zU := zu_s (q := (⟨"HandToHandModel", "isMore", "()Z"⟩, 40)) (zu_q5 (List.mem_of_getElem? (i := 9) rfl)) rfl
theorem zs_90 : Cond.selects "HandToHandModel" ⟨"HandToHandModel", "keepBest", "()V"⟩ ⟨"HandToHandModel", "keepBest", "()V"⟩ ∈ zU := zu_s (q := (⟨"HandToHandModel", "keepBest", "()V"⟩, 40)) (zu_q5 (List.mem_of_getElem? (i := 10) rfl)) rfl
theorem zs_91 : Cond.selects "HandToHandModel" ⟨"HandToHandModel", "isLike", "()Z"⟩ ⟨"HandToHandModel", "isLike", "()Z"⟩ ∈ zU := zu_s (q := (⟨"HandToHandModel", "isLike", "()Z"⟩, 40)) (zu_q5 (List.mem_of_getElem? (i := 11) rfl)) rfl
theorem zs_92 : Cond.selects "HandToHandModel" ⟨"HandToHandModel", "areLess", "()Z"⟩ ⟨"HandToHandModel", "areLess", "()Z"⟩ ∈ zU := zu_s (q := (⟨"HandToHandModel", "areLess", "()Z"⟩, 40)) (zu_q5 (List.mem_of_getElem? (i := 12) rfl)) rfl
def zN : List (String × Nat × MethodName × String) := [("HandToHand", 9, ⟨"HandToHand$Told", "<init>", "()V"⟩, "HandToHand"), ("HandToHand", 21, ⟨"HandToHand$Reader", "<init>", "()V"⟩, "HandToHand"), ("HandToHand$Reader", 11, ⟨"HandToHand$Told", "<init>", "()V"⟩, "HandToHand"), ("HandToHand$Course", 11, ⟨"HandToHand$Handings", "<init>", "()V"⟩, "HandToHand"), ("HandToHand", 61, ⟨"HandToHand$Ring", "<init>", "()V"⟩, "HandToHand"), ("HandToHand", 71, ⟨"HandToHand$Orders", "<init>", "()V"⟩, "HandToHand"), ("HandToHand", 78, ⟨"HandToHand$Parts", "<init>", "()V"⟩, "HandToHand"), ("HandToHand", 92, ⟨"HandToHand$Sheet", "<init>", "()V"⟩, "HandToHand"), ("HandToHand$Ring", 35, ⟨"HandToHand", "commonDivisor", "(JJ)J"⟩, "HandToHand"), ("HandToHand$Orders", 21, ⟨"HandToHand", "numberOfOrders", "(I)I"⟩, "HandToHand")]
theorem zN_tbl : ∀ q ∈ zN, Cond.methodLinkNest q.1 q.2.1 q.2.2.1 q.2.2.2 ∈ lw_tbl := List.forall_mem_cons.mpr ⟨List.mem_append_right _ (zu_l1 (List.mem_of_getElem? (i := 28) rfl)), List.forall_mem_cons.mpr ⟨List.mem_append_right _ (zu_l1 (List.mem_of_getElem? (i := 98) rfl)), List.forall_mem_cons.mpr ⟨List.mem_append_right _ (zu_l1 (List.mem_of_getElem? (i := 103) rfl)), List.forall_mem_cons.mpr ⟨List.mem_append_right _ (zu_l1 (List.mem_of_getElem? (i := 229) rfl)), List.forall_mem_cons.mpr ⟨List.mem_append_right _ (zu_l2 (List.mem_of_getElem? (i := 48) rfl)), List.forall_mem_cons.mpr ⟨List.mem_append_right _ (zu_l2 (List.mem_of_getElem? (i := 91) rfl)), List.forall_mem_cons.mpr ⟨List.mem_append_right _ (zu_l2 (List.mem_of_getElem? (i := 110) rfl)), List.forall_mem_cons.mpr ⟨List.mem_append_right _ (zu_l2 (List.mem_of_getElem? (i := 145) rfl)), List.forall_mem_cons.mpr ⟨List.mem_append_right _ (zu_l4 (List.mem_of_getElem? (i := 148) rfl)), List.forall_mem_cons.mpr ⟨List.mem_append_right _ (zu_l4 (List.mem_of_getElem? (i := 198) rfl)), fun _ h => absurd h List.not_mem_nil⟩⟩⟩⟩⟩⟩⟩⟩⟩⟩
theorem zin_0 : ∀ u ∈ u_ws "HandToHand$Bench" TX0 14, u ∈ zU := List.forall_mem_cons.mpr ⟨zu_t (zu_l1 (List.mem_of_getElem? (i := 191) rfl)) rfl, List.forall_mem_cons.mpr ⟨zu_t (zu_l1 (List.mem_of_getElem? (i := 193) rfl)) rfl, List.forall_mem_cons.mpr ⟨zu_t (zu_l1 (List.mem_of_getElem? (i := 195) rfl)) rfl, List.forall_mem_cons.mpr ⟨zu_t (zu_l1 (List.mem_of_getElem? (i := 197) rfl)) rfl, List.forall_mem_cons.mpr ⟨zu_t (zu_l1 (List.mem_of_getElem? (i := 199) rfl)) rfl, List.forall_mem_cons.mpr ⟨zu_t (zu_l1 (List.mem_of_getElem? (i := 201) rfl)) rfl, List.forall_mem_cons.mpr ⟨zu_t (zu_l1 (List.mem_of_getElem? (i := 203) rfl)) rfl, List.forall_mem_cons.mpr ⟨zu_t (zu_l1 (List.mem_of_getElem? (i := 205) rfl)) rfl, List.forall_mem_cons.mpr ⟨zu_t (zu_l1 (List.mem_of_getElem? (i := 207) rfl)) rfl, List.forall_mem_cons.mpr ⟨zu_t (zu_l1 (List.mem_of_getElem? (i := 209) rfl)) rfl, List.forall_mem_cons.mpr ⟨zu_t (zu_l1 (List.mem_of_getElem? (i := 211) rfl)) rfl, List.forall_mem_cons.mpr ⟨zu_t (zu_l1 (List.mem_of_getElem? (i := 213) rfl)) rfl, List.forall_mem_cons.mpr ⟨zu_t (zu_l1 (List.mem_of_getElem? (i := 215) rfl)) rfl, List.forall_mem_cons.mpr ⟨zu_t (zu_l1 (List.mem_of_getElem? (i := 217) rfl)) rfl, fun _ h => absurd h List.not_mem_nil⟩⟩⟩⟩⟩⟩⟩⟩⟩⟩⟩⟩⟩⟩
theorem zin_1 : ∀ u ∈ u_ws "HandToHand$Course" TX1 4, u ∈ zU := List.forall_mem_cons.mpr ⟨zu_t (zu_l2 (List.mem_of_getElem? (i := 13) rfl)) rfl, List.forall_mem_cons.mpr ⟨zu_t (zu_l2 (List.mem_of_getElem? (i := 15) rfl)) rfl, List.forall_mem_cons.mpr ⟨zu_t (zu_l2 (List.mem_of_getElem? (i := 17) rfl)) rfl, List.forall_mem_cons.mpr ⟨zu_t (zu_l2 (List.mem_of_getElem? (i := 19) rfl)) rfl, fun _ h => absurd h List.not_mem_nil⟩⟩⟩⟩
theorem zin_2 : ∀ u ∈ u_ws "HandToHand$Handings" TX2 2, u ∈ zU := List.forall_mem_cons.mpr ⟨zu_t (zu_l1 (List.mem_of_getElem? (i := 237) rfl)) rfl, List.forall_mem_cons.mpr ⟨zu_t (zu_l1 (List.mem_of_getElem? (i := 239) rfl)) rfl, fun _ h => absurd h List.not_mem_nil⟩⟩
theorem zin_3 : ∀ u ∈ u_ws "HandToHand$Orders" TX3 3, u ∈ zU := List.forall_mem_cons.mpr ⟨zu_t (zu_l2 (List.mem_of_getElem? (i := 101) rfl)) rfl, List.forall_mem_cons.mpr ⟨zu_t (zu_l2 (List.mem_of_getElem? (i := 103) rfl)) rfl, List.forall_mem_cons.mpr ⟨zu_t (zu_l2 (List.mem_of_getElem? (i := 105) rfl)) rfl, fun _ h => absurd h List.not_mem_nil⟩⟩⟩
theorem zin_4 : ∀ u ∈ u_ws "HandToHand$Parts" TX4 4, u ∈ zU := List.forall_mem_cons.mpr ⟨zu_t (zu_l2 (List.mem_of_getElem? (i := 121) rfl)) rfl, List.forall_mem_cons.mpr ⟨zu_t (zu_l2 (List.mem_of_getElem? (i := 123) rfl)) rfl, List.forall_mem_cons.mpr ⟨zu_t (zu_l2 (List.mem_of_getElem? (i := 125) rfl)) rfl, List.forall_mem_cons.mpr ⟨zu_t (zu_l2 (List.mem_of_getElem? (i := 127) rfl)) rfl, fun _ h => absurd h List.not_mem_nil⟩⟩⟩⟩
theorem zin_5 : ∀ u ∈ u_ws "HandToHand$Reader" TX5 14, u ∈ zU := List.forall_mem_cons.mpr ⟨zu_t (zu_l1 (List.mem_of_getElem? (i := 124) rfl)) rfl, List.forall_mem_cons.mpr ⟨zu_t (zu_l1 (List.mem_of_getElem? (i := 126) rfl)) rfl, List.forall_mem_cons.mpr ⟨zu_t (zu_l1 (List.mem_of_getElem? (i := 128) rfl)) rfl, List.forall_mem_cons.mpr ⟨zu_t (zu_l1 (List.mem_of_getElem? (i := 130) rfl)) rfl, List.forall_mem_cons.mpr ⟨zu_t (zu_l1 (List.mem_of_getElem? (i := 132) rfl)) rfl, List.forall_mem_cons.mpr ⟨zu_t (zu_l1 (List.mem_of_getElem? (i := 134) rfl)) rfl, List.forall_mem_cons.mpr ⟨zu_t (zu_l1 (List.mem_of_getElem? (i := 136) rfl)) rfl, List.forall_mem_cons.mpr ⟨zu_t (zu_l1 (List.mem_of_getElem? (i := 138) rfl)) rfl, List.forall_mem_cons.mpr ⟨zu_t (zu_l1 (List.mem_of_getElem? (i := 140) rfl)) rfl, List.forall_mem_cons.mpr ⟨zu_t (zu_l1 (List.mem_of_getElem? (i := 142) rfl)) rfl, List.forall_mem_cons.mpr ⟨zu_t (zu_l1 (List.mem_of_getElem? (i := 144) rfl)) rfl, List.forall_mem_cons.mpr ⟨zu_t (zu_l1 (List.mem_of_getElem? (i := 146) rfl)) rfl, List.forall_mem_cons.mpr ⟨zu_t (zu_l1 (List.mem_of_getElem? (i := 148) rfl)) rfl, List.forall_mem_cons.mpr ⟨zu_t (zu_l1 (List.mem_of_getElem? (i := 150) rfl)) rfl, fun _ h => absurd h List.not_mem_nil⟩⟩⟩⟩⟩⟩⟩⟩⟩⟩⟩⟩⟩⟩
theorem zin_6 : ∀ u ∈ u_ws "HandToHand$Ring" TX6 8, u ∈ zU := List.forall_mem_cons.mpr ⟨zu_t (zu_l2 (List.mem_of_getElem? (i := 72) rfl)) rfl, List.forall_mem_cons.mpr ⟨zu_t (zu_l2 (List.mem_of_getElem? (i := 74) rfl)) rfl, List.forall_mem_cons.mpr ⟨zu_t (zu_l2 (List.mem_of_getElem? (i := 76) rfl)) rfl, List.forall_mem_cons.mpr ⟨zu_t (zu_l2 (List.mem_of_getElem? (i := 78) rfl)) rfl, List.forall_mem_cons.mpr ⟨zu_t (zu_l2 (List.mem_of_getElem? (i := 80) rfl)) rfl, List.forall_mem_cons.mpr ⟨zu_t (zu_l2 (List.mem_of_getElem? (i := 82) rfl)) rfl, List.forall_mem_cons.mpr ⟨zu_t (zu_l2 (List.mem_of_getElem? (i := 84) rfl)) rfl, List.forall_mem_cons.mpr ⟨zu_t (zu_l2 (List.mem_of_getElem? (i := 86) rfl)) rfl, fun _ h => absurd h List.not_mem_nil⟩⟩⟩⟩⟩⟩⟩⟩
theorem zin_7 : ∀ u ∈ u_ws "HandToHand$Settling" TX7 5, u ∈ zU := List.forall_mem_cons.mpr ⟨zu_t (zu_l2 (List.mem_of_getElem? (i := 35) rfl)) rfl, List.forall_mem_cons.mpr ⟨zu_t (zu_l2 (List.mem_of_getElem? (i := 37) rfl)) rfl, List.forall_mem_cons.mpr ⟨zu_t (zu_l2 (List.mem_of_getElem? (i := 39) rfl)) rfl, List.forall_mem_cons.mpr ⟨zu_t (zu_l2 (List.mem_of_getElem? (i := 41) rfl)) rfl, List.forall_mem_cons.mpr ⟨zu_t (zu_l2 (List.mem_of_getElem? (i := 43) rfl)) rfl, fun _ h => absurd h List.not_mem_nil⟩⟩⟩⟩⟩
theorem zin_8 : ∀ u ∈ u_ws "HandToHand$Sheet" TX8 3, u ∈ zU := List.forall_mem_cons.mpr ⟨zu_t (zu_l2 (List.mem_of_getElem? (i := 155) rfl)) rfl, List.forall_mem_cons.mpr ⟨zu_t (zu_l2 (List.mem_of_getElem? (i := 157) rfl)) rfl, List.forall_mem_cons.mpr ⟨zu_t (zu_l2 (List.mem_of_getElem? (i := 159) rfl)) rfl, fun _ h => absurd h List.not_mem_nil⟩⟩⟩
theorem zin_9 : ∀ u ∈ u_ws "HandToHand$Told" TX9 11, u ∈ zU := List.forall_mem_cons.mpr ⟨zu_t (zu_l1 (List.mem_of_getElem? (i := 72) rfl)) rfl, List.forall_mem_cons.mpr ⟨zu_t (zu_l1 (List.mem_of_getElem? (i := 74) rfl)) rfl, List.forall_mem_cons.mpr ⟨zu_t (zu_l1 (List.mem_of_getElem? (i := 76) rfl)) rfl, List.forall_mem_cons.mpr ⟨zu_t (zu_l1 (List.mem_of_getElem? (i := 78) rfl)) rfl, List.forall_mem_cons.mpr ⟨zu_t (zu_l1 (List.mem_of_getElem? (i := 80) rfl)) rfl, List.forall_mem_cons.mpr ⟨zu_t (zu_l1 (List.mem_of_getElem? (i := 82) rfl)) rfl, List.forall_mem_cons.mpr ⟨zu_t (zu_l1 (List.mem_of_getElem? (i := 84) rfl)) rfl, List.forall_mem_cons.mpr ⟨zu_t (zu_l1 (List.mem_of_getElem? (i := 86) rfl)) rfl, List.forall_mem_cons.mpr ⟨zu_t (zu_l1 (List.mem_of_getElem? (i := 88) rfl)) rfl, List.forall_mem_cons.mpr ⟨zu_t (zu_l1 (List.mem_of_getElem? (i := 90) rfl)) rfl, List.forall_mem_cons.mpr ⟨zu_t (zu_l1 (List.mem_of_getElem? (i := 92) rfl)) rfl, fun _ h => absurd h List.not_mem_nil⟩⟩⟩⟩⟩⟩⟩⟩⟩⟩⟩
theorem zin_10 : ∀ u ∈ u_ws "HandToHand" TX10 14, u ∈ zU := List.forall_mem_cons.mpr ⟨zu_t (zu_l3 (List.mem_of_getElem? (i := 1) rfl)) rfl, List.forall_mem_cons.mpr ⟨zu_t (zu_l3 (List.mem_of_getElem? (i := 3) rfl)) rfl, List.forall_mem_cons.mpr ⟨zu_t (zu_l3 (List.mem_of_getElem? (i := 5) rfl)) rfl, List.forall_mem_cons.mpr ⟨zu_t (zu_l3 (List.mem_of_getElem? (i := 7) rfl)) rfl, List.forall_mem_cons.mpr ⟨zu_t (zu_l3 (List.mem_of_getElem? (i := 9) rfl)) rfl, List.forall_mem_cons.mpr ⟨zu_t (zu_l3 (List.mem_of_getElem? (i := 11) rfl)) rfl, List.forall_mem_cons.mpr ⟨zu_t (zu_l3 (List.mem_of_getElem? (i := 13) rfl)) rfl, List.forall_mem_cons.mpr ⟨zu_t (zu_l3 (List.mem_of_getElem? (i := 15) rfl)) rfl, List.forall_mem_cons.mpr ⟨zu_t (zu_l3 (List.mem_of_getElem? (i := 17) rfl)) rfl, List.forall_mem_cons.mpr ⟨zu_t (zu_l3 (List.mem_of_getElem? (i := 19) rfl)) rfl, List.forall_mem_cons.mpr ⟨zu_t (zu_l3 (List.mem_of_getElem? (i := 21) rfl)) rfl, List.forall_mem_cons.mpr ⟨zu_t (zu_l3 (List.mem_of_getElem? (i := 23) rfl)) rfl, List.forall_mem_cons.mpr ⟨zu_t (zu_l3 (List.mem_of_getElem? (i := 25) rfl)) rfl, List.forall_mem_cons.mpr ⟨zu_t (zu_l3 (List.mem_of_getElem? (i := 27) rfl)) rfl, fun _ h => absurd h List.not_mem_nil⟩⟩⟩⟩⟩⟩⟩⟩⟩⟩⟩⟩⟩⟩
theorem zin_11 : ∀ u ∈ u_ws "HandToHandModel" TX11 40, u ∈ zU := List.forall_mem_cons.mpr ⟨zu_t (zu_l5 (List.mem_of_getElem? (i := 100) rfl)) rfl, List.forall_mem_cons.mpr ⟨zu_t (zu_l5 (List.mem_of_getElem? (i := 102) rfl)) rfl, List.forall_mem_cons.mpr ⟨zu_t (zu_l5 (List.mem_of_getElem? (i := 104) rfl)) rfl, List.forall_mem_cons.mpr ⟨zu_t (zu_l5 (List.mem_of_getElem? (i := 106) rfl)) rfl, List.forall_mem_cons.mpr ⟨zu_t (zu_l5 (List.mem_of_getElem? (i := 108) rfl)) rfl, List.forall_mem_cons.mpr ⟨zu_t (zu_l5 (List.mem_of_getElem? (i := 110) rfl)) rfl, List.forall_mem_cons.mpr ⟨zu_t (zu_l5 (List.mem_of_getElem? (i := 112) rfl)) rfl, List.forall_mem_cons.mpr ⟨zu_t (zu_l5 (List.mem_of_getElem? (i := 114) rfl)) rfl, List.forall_mem_cons.mpr ⟨zu_t (zu_l5 (List.mem_of_getElem? (i := 116) rfl)) rfl, List.forall_mem_cons.mpr ⟨zu_t (zu_l5 (List.mem_of_getElem? (i := 118) rfl)) rfl, List.forall_mem_cons.mpr ⟨zu_t (zu_l5 (List.mem_of_getElem? (i := 120) rfl)) rfl, List.forall_mem_cons.mpr ⟨zu_t (zu_l5 (List.mem_of_getElem? (i := 122) rfl)) rfl, List.forall_mem_cons.mpr ⟨zu_t (zu_l5 (List.mem_of_getElem? (i := 124) rfl)) rfl, List.forall_mem_cons.mpr ⟨zu_t (zu_l5 (List.mem_of_getElem? (i := 126) rfl)) rfl, List.forall_mem_cons.mpr ⟨zu_t (zu_l5 (List.mem_of_getElem? (i := 128) rfl)) rfl, List.forall_mem_cons.mpr ⟨zu_t (zu_l5 (List.mem_of_getElem? (i := 130) rfl)) rfl, List.forall_mem_cons.mpr ⟨zu_t (zu_l5 (List.mem_of_getElem? (i := 132) rfl)) rfl, List.forall_mem_cons.mpr ⟨zu_t (zu_l5 (List.mem_of_getElem? (i := 134) rfl)) rfl, List.forall_mem_cons.mpr ⟨zu_t (zu_l5 (List.mem_of_getElem? (i := 136) rfl)) rfl, List.forall_mem_cons.mpr ⟨zu_t (zu_l5 (List.mem_of_getElem? (i := 138) rfl)) rfl, List.forall_mem_cons.mpr ⟨zu_t (zu_l5 (List.mem_of_getElem? (i := 140) rfl)) rfl, List.forall_mem_cons.mpr ⟨zu_t (zu_l5 (List.mem_of_getElem? (i := 142) rfl)) rfl, List.forall_mem_cons.mpr ⟨zu_t (zu_l5 (List.mem_of_getElem? (i := 144) rfl)) rfl, List.forall_mem_cons.mpr ⟨zu_t (zu_l5 (List.mem_of_getElem? (i := 146) rfl)) rfl, List.forall_mem_cons.mpr ⟨zu_t (zu_l5 (List.mem_of_getElem? (i := 148) rfl)) rfl, List.forall_mem_cons.mpr ⟨zu_t (zu_l5 (List.mem_of_getElem? (i := 150) rfl)) rfl, List.forall_mem_cons.mpr ⟨zu_t (zu_l5 (List.mem_of_getElem? (i := 152) rfl)) rfl, List.forall_mem_cons.mpr ⟨zu_t (zu_l5 (List.mem_of_getElem? (i := 154) rfl)) rfl, List.forall_mem_cons.mpr ⟨zu_t (zu_l5 (List.mem_of_getElem? (i := 156) rfl)) rfl, List.forall_mem_cons.mpr ⟨zu_t (zu_l5 (List.mem_of_getElem? (i := 158) rfl)) rfl, List.forall_mem_cons.mpr ⟨zu_t (zu_l5 (List.mem_of_getElem? (i := 160) rfl)) rfl, List.forall_mem_cons.mpr ⟨zu_t (zu_l5 (List.mem_of_getElem? (i := 162) rfl)) rfl, List.forall_mem_cons.mpr ⟨zu_t (zu_l5 (List.mem_of_getElem? (i := 164) rfl)) rfl, List.forall_mem_cons.mpr ⟨zu_t (zu_l5 (List.mem_of_getElem? (i := 166) rfl)) rfl, List.forall_mem_cons.mpr ⟨zu_t (zu_l5 (List.mem_of_getElem? (i := 168) rfl)) rfl, List.forall_mem_cons.mpr ⟨zu_t (zu_l5 (List.mem_of_getElem? (i := 170) rfl)) rfl, List.forall_mem_cons.mpr ⟨zu_t (zu_l5 (List.mem_of_getElem? (i := 172) rfl)) rfl, List.forall_mem_cons.mpr ⟨zu_t (zu_l5 (List.mem_of_getElem? (i := 174) rfl)) rfl, List.forall_mem_cons.mpr ⟨zu_t (zu_l5 (List.mem_of_getElem? (i := 176) rfl)) rfl, List.forall_mem_cons.mpr ⟨zu_t (zu_l5 (List.mem_of_getElem? (i := 178) rfl)) rfl, fun _ h => absurd h List.not_mem_nil⟩⟩⟩⟩⟩⟩⟩⟩⟩⟩⟩⟩⟩⟩⟩⟩⟩⟩⟩⟩⟩⟩⟩⟩⟩⟩⟩⟩⟩⟩⟩⟩⟩⟩⟩⟩⟩⟩⟩⟩
