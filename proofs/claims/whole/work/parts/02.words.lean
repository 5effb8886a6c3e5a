/-! words of the tables, by what they are -/
def GB : List Cond := lw_tbl.filter goodWord
theorem gb_t {w : Cond} (h : w ∈ tables_1) (g : goodWord w = true) : w ∈ GB := List.mem_filter.mpr ⟨List.mem_append_right _ h, g⟩
theorem gb_p {w : Cond} (h : w ∈ k2_sels lw_privs) (g : goodWord w = true) : w ∈ GB := List.mem_filter.mpr ⟨List.mem_append_left _ h, g⟩
set_option maxRecDepth 100000 in
theorem wn_L : (Jvm.Cond.initialized "ReportBlocksLaw") ∈ GB := gb_t (List.mem_of_getElem? (i := 0) rfl) rfl
set_option maxRecDepth 100000 in
theorem wn_X7 : (Jvm.Cond.initialized "ReportBlocks") ∈ GB := gb_t (List.mem_of_getElem? (i := 1) rfl) rfl
set_option maxRecDepth 100000 in
theorem wn_X4 : (Jvm.Cond.initialized "ReportBlocks$Tape") ∈ GB := gb_t (List.mem_of_getElem? (i := 2) rfl) rfl
set_option maxRecDepth 100000 in
theorem wn_X3 : (Jvm.Cond.initialized "ReportBlocks$Reader") ∈ GB := gb_t (List.mem_of_getElem? (i := 3) rfl) rfl
set_option maxRecDepth 100000 in
theorem wn_X0 : (Jvm.Cond.initialized "ReportBlocks$Block") ∈ GB := gb_t (List.mem_of_getElem? (i := 4) rfl) rfl
set_option maxRecDepth 100000 in
theorem wn_X2 : (Jvm.Cond.initialized "ReportBlocks$OwnRecord") ∈ GB := gb_t (List.mem_of_getElem? (i := 5) rfl) rfl
set_option maxRecDepth 100000 in
theorem wn_X6 : (Jvm.Cond.initialized "ReportBlocks$TrackRow") ∈ GB := gb_t (List.mem_of_getElem? (i := 6) rfl) rfl
set_option maxRecDepth 100000 in
theorem wn_X5 : (Jvm.Cond.initialized "ReportBlocks$Track") ∈ GB := gb_t (List.mem_of_getElem? (i := 7) rfl) rfl
set_option maxRecDepth 100000 in
theorem wn_X8 : (Jvm.Cond.initialized "ReportBlocksModel") ∈ GB := gb_t (List.mem_of_getElem? (i := 8) rfl) rfl
set_option maxRecDepth 100000 in
theorem wn_X1 : (Jvm.Cond.initialized "ReportBlocks$Category") ∈ GB := gb_t (List.mem_of_getElem? (i := 9) rfl) rfl
set_option maxRecDepth 100000 in
theorem wn_J7 : (Jvm.Cond.initialized "java/util/Arrays") ∈ GB := gb_t (List.mem_of_getElem? (i := 10) rfl) rfl
set_option maxRecDepth 100000 in
theorem wn_J10 : (Jvm.Cond.initialized "java/lang/System") ∈ GB := gb_t (List.mem_of_getElem? (i := 11) rfl) rfl
set_option maxRecDepth 100000 in
theorem wn_J9 : (Jvm.Cond.initialized "java/lang/Math") ∈ GB := gb_t (List.mem_of_getElem? (i := 12) rfl) rfl
set_option maxRecDepth 100000 in
theorem wk_L_7 : (Jvm.Cond.classLink "ReportBlocksLaw" (7 : Nat) "ReportBlocks") ∈ GB := gb_t (List.mem_of_getElem? (i := 13) rfl) rfl
set_option maxRecDepth 100000 in
theorem wb_X7 : (Jvm.Cond.instantiable "ReportBlocks" (10 : Nat)) ∈ GB := gb_t (List.mem_of_getElem? (i := 14) rfl) rfl
set_option maxRecDepth 100000 in
theorem wl_L_9 : (Jvm.Cond.methodLink "ReportBlocksLaw" (9 : Nat) ({ cls := "ReportBlocks", name := "<init>", desc := "()V" } : Jvm.MethodName)) ∈ GB := gb_t (List.mem_of_getElem? (i := 15) rfl) rfl
set_option maxRecDepth 100000 in
theorem wi_X7_init : (Jvm.Cond.instanceMethod ({ cls := "ReportBlocks", name := "<init>", desc := "()V" } : Jvm.MethodName)) ∈ GB := gb_t (List.mem_of_getElem? (i := 16) rfl) rfl
set_option maxRecDepth 100000 in
theorem wc_X7_init : Cond.code yX7_init cX7_init 1 (Option.none : Option Jvm.ClassFile.FieldType) ∈ GB := gb_t (List.mem_of_getElem? (i := 17) rfl) rfl
set_option maxRecDepth 100000 in
theorem wl_X7_3 : (Jvm.Cond.methodLink "ReportBlocks" (3 : Nat) ({ cls := "java/lang/Object", name := "<init>", desc := "()V" } : Jvm.MethodName)) ∈ GB := gb_t (List.mem_of_getElem? (i := 18) rfl) rfl
set_option maxRecDepth 100000 in
theorem wi_objInit : (Jvm.Cond.instanceMethod ({ cls := "java/lang/Object", name := "<init>", desc := "()V" } : Jvm.MethodName)) ∈ GB := gb_t (List.mem_of_getElem? (i := 19) rfl) rfl
set_option maxRecDepth 100000 in
theorem wc_objInit : (Jvm.Cond.code ({ cls := "java/lang/Object", name := "<init>", desc := "()V" } : Jvm.MethodName) object_method_1_code (1 : Nat) (Option.none : Option Jvm.ClassFile.FieldType)) ∈ GB := gb_t (List.mem_of_getElem? (i := 20) rfl) rfl
set_option maxRecDepth 100000 in
theorem wk_X7_9 : (Jvm.Cond.classLink "ReportBlocks" (9 : Nat) "ReportBlocks$Category") ∈ GB := gb_t (List.mem_of_getElem? (i := 21) rfl) rfl
set_option maxRecDepth 100000 in
theorem wq_X1 : (Jvm.Cond.arrayOver (Jvm.ClassFile.FieldType.object "ReportBlocks$Category")) ∈ lw_tbl := List.mem_append_right _ (List.mem_of_getElem? (i := 22) rfl)
set_option maxRecDepth 100000 in
theorem wk_X7_15 : (Jvm.Cond.classLink "ReportBlocks" (15 : Nat) "ReportBlocks$Tape") ∈ GB := gb_t (List.mem_of_getElem? (i := 23) rfl) rfl
set_option maxRecDepth 100000 in
theorem wb_X4 : (Jvm.Cond.instantiable "ReportBlocks$Tape" (2 : Nat)) ∈ GB := gb_t (List.mem_of_getElem? (i := 24) rfl) rfl
set_option maxRecDepth 100000 in
theorem wl_X7_17 : (Jvm.Cond.methodLink "ReportBlocks" (17 : Nat) ({ cls := "ReportBlocks$Tape", name := "<init>", desc := "()V" } : Jvm.MethodName)) ∈ GB := gb_t (List.mem_of_getElem? (i := 25) rfl) rfl
set_option maxRecDepth 100000 in
theorem wi_X4_init : (Jvm.Cond.instanceMethod ({ cls := "ReportBlocks$Tape", name := "<init>", desc := "()V" } : Jvm.MethodName)) ∈ GB := gb_t (List.mem_of_getElem? (i := 26) rfl) rfl
set_option maxRecDepth 100000 in
theorem wc_X4_init : Cond.code yX4_init cX4_init 1 (Option.none : Option Jvm.ClassFile.FieldType) ∈ GB := gb_t (List.mem_of_getElem? (i := 27) rfl) rfl
set_option maxRecDepth 100000 in
theorem wl_X4_3 : (Jvm.Cond.methodLink "ReportBlocks$Tape" (3 : Nat) ({ cls := "java/lang/Object", name := "<init>", desc := "()V" } : Jvm.MethodName)) ∈ GB := gb_t (List.mem_of_getElem? (i := 28) rfl) rfl
set_option maxRecDepth 100000 in
theorem wf_X3_9 : (Jvm.Cond.fieldLink "ReportBlocks$Reader" (9 : Nat) "ReportBlocks$Tape" "bytes" "[I") ∈ GB := gb_t (List.mem_of_getElem? (i := 29) rfl) rfl
set_option maxRecDepth 100000 in
theorem wf_X4_9 : (Jvm.Cond.fieldLink "ReportBlocks$Tape" (9 : Nat) "ReportBlocks$Tape" "bytes" "[I") ∈ GB := gb_t (List.mem_of_getElem? (i := 30) rfl) rfl
set_option maxRecDepth 100000 in
theorem wf_X7_135 : (Jvm.Cond.fieldLink "ReportBlocks" (135 : Nat) "ReportBlocks$Tape" "bytes" "[I") ∈ GB := gb_t (List.mem_of_getElem? (i := 31) rfl) rfl
set_option maxRecDepth 100000 in
theorem wf_X4_15 : (Jvm.Cond.fieldLink "ReportBlocks$Tape" (15 : Nat) "ReportBlocks$Tape" "size" "I") ∈ GB := gb_t (List.mem_of_getElem? (i := 32) rfl) rfl
set_option maxRecDepth 100000 in
theorem wf_X7_114 : (Jvm.Cond.fieldLink "ReportBlocks" (114 : Nat) "ReportBlocks$Tape" "size" "I") ∈ GB := gb_t (List.mem_of_getElem? (i := 33) rfl) rfl
set_option maxRecDepth 100000 in
theorem wy_X4_bytes : (Jvm.Cond.laysFinal "ReportBlocks$Tape" "ReportBlocks$Tape" "bytes" "[I") ∈ GB := gb_t (List.mem_of_getElem? (i := 34) rfl) rfl
set_option maxRecDepth 100000 in
theorem wy_X4_size : (Jvm.Cond.lays "ReportBlocks$Tape" "ReportBlocks$Tape" "size" "I") ∈ GB := gb_t (List.mem_of_getElem? (i := 36) rfl) rfl
set_option maxRecDepth 100000 in
theorem wr_int : (Jvm.Cond.arrayClass Jvm.ClassFile.FieldType.int) ∈ GB := gb_t (List.mem_of_getElem? (i := 39) rfl) rfl
set_option maxRecDepth 100000 in
theorem wk_X7_22 : (Jvm.Cond.classLink "ReportBlocks" (22 : Nat) "ReportBlocks$Reader") ∈ GB := gb_t (List.mem_of_getElem? (i := 40) rfl) rfl
set_option maxRecDepth 100000 in
theorem wb_X3 : (Jvm.Cond.instantiable "ReportBlocks$Reader" (6 : Nat)) ∈ GB := gb_t (List.mem_of_getElem? (i := 41) rfl) rfl
set_option maxRecDepth 100000 in
theorem wl_X7_24 : (Jvm.Cond.methodLink "ReportBlocks" (24 : Nat) ({ cls := "ReportBlocks$Reader", name := "<init>", desc := "(LReportBlocks$Tape;)V" } : Jvm.MethodName)) ∈ GB := gb_t (List.mem_of_getElem? (i := 42) rfl) rfl
set_option maxRecDepth 100000 in
theorem wi_X3_init : (Jvm.Cond.instanceMethod ({ cls := "ReportBlocks$Reader", name := "<init>", desc := "(LReportBlocks$Tape;)V" } : Jvm.MethodName)) ∈ GB := gb_t (List.mem_of_getElem? (i := 43) rfl) rfl
set_option maxRecDepth 100000 in
theorem wc_X3_init : Cond.code yX3_init cX3_init 2 (Option.none : Option Jvm.ClassFile.FieldType) ∈ GB := gb_t (List.mem_of_getElem? (i := 44) rfl) rfl
set_option maxRecDepth 100000 in
theorem wl_X3_3 : (Jvm.Cond.methodLink "ReportBlocks$Reader" (3 : Nat) ({ cls := "java/lang/Object", name := "<init>", desc := "()V" } : Jvm.MethodName)) ∈ GB := gb_t (List.mem_of_getElem? (i := 45) rfl) rfl
set_option maxRecDepth 100000 in
theorem wf_X3_15 : (Jvm.Cond.fieldLink "ReportBlocks$Reader" (15 : Nat) "ReportBlocks$Reader" "bytes" "[I") ∈ GB := gb_t (List.mem_of_getElem? (i := 46) rfl) rfl
set_option maxRecDepth 100000 in
theorem wf_X3_59 : (Jvm.Cond.fieldLink "ReportBlocks$Reader" (59 : Nat) "ReportBlocks$Reader" "table" "LReportBlocks$Category;") ∈ GB := gb_t (List.mem_of_getElem? (i := 47) rfl) rfl
set_option maxRecDepth 100000 in
theorem wf_X7_183 : (Jvm.Cond.fieldLink "ReportBlocks" (183 : Nat) "ReportBlocks$Reader" "table" "LReportBlocks$Category;") ∈ GB := gb_t (List.mem_of_getElem? (i := 48) rfl) rfl
set_option maxRecDepth 100000 in
theorem wf_X3_18 : (Jvm.Cond.fieldLink "ReportBlocks$Reader" (18 : Nat) "ReportBlocks$Reader" "next" "I") ∈ GB := gb_t (List.mem_of_getElem? (i := 49) rfl) rfl
set_option maxRecDepth 100000 in
theorem wf_X7_190 : (Jvm.Cond.fieldLink "ReportBlocks" (190 : Nat) "ReportBlocks$Reader" "next" "I") ∈ GB := gb_t (List.mem_of_getElem? (i := 50) rfl) rfl
set_option maxRecDepth 100000 in
theorem wf_X3_22 : (Jvm.Cond.fieldLink "ReportBlocks$Reader" (22 : Nat) "ReportBlocks$Reader" "end" "I") ∈ GB := gb_t (List.mem_of_getElem? (i := 51) rfl) rfl
set_option maxRecDepth 100000 in
theorem wf_X7_138 : (Jvm.Cond.fieldLink "ReportBlocks" (138 : Nat) "ReportBlocks$Reader" "end" "I") ∈ GB := gb_t (List.mem_of_getElem? (i := 52) rfl) rfl
set_option maxRecDepth 100000 in
theorem wf_X3_25 : (Jvm.Cond.fieldLink "ReportBlocks$Reader" (25 : Nat) "ReportBlocks$Reader" "fault" "I") ∈ GB := gb_t (List.mem_of_getElem? (i := 53) rfl) rfl
set_option maxRecDepth 100000 in
theorem wf_X7_126 : (Jvm.Cond.fieldLink "ReportBlocks" (126 : Nat) "ReportBlocks$Reader" "fault" "I") ∈ GB := gb_t (List.mem_of_getElem? (i := 54) rfl) rfl
set_option maxRecDepth 100000 in
theorem wf_X3_28 : (Jvm.Cond.fieldLink "ReportBlocks$Reader" (28 : Nat) "ReportBlocks$Reader" "faultPlace" "I") ∈ GB := gb_t (List.mem_of_getElem? (i := 55) rfl) rfl
set_option maxRecDepth 100000 in
theorem wf_X7_132 : (Jvm.Cond.fieldLink "ReportBlocks" (132 : Nat) "ReportBlocks$Reader" "faultPlace" "I") ∈ GB := gb_t (List.mem_of_getElem? (i := 56) rfl) rfl
set_option maxRecDepth 100000 in
theorem wy_X3_bytes : (Jvm.Cond.laysFinal "ReportBlocks$Reader" "ReportBlocks$Reader" "bytes" "[I") ∈ GB := gb_t (List.mem_of_getElem? (i := 57) rfl) rfl
set_option maxRecDepth 100000 in
theorem wy_X3_table : (Jvm.Cond.lays "ReportBlocks$Reader" "ReportBlocks$Reader" "table" "LReportBlocks$Category;") ∈ GB := gb_t (List.mem_of_getElem? (i := 59) rfl) rfl
set_option maxRecDepth 100000 in
theorem wy_X3_next : (Jvm.Cond.lays "ReportBlocks$Reader" "ReportBlocks$Reader" "next" "I") ∈ GB := gb_t (List.mem_of_getElem? (i := 61) rfl) rfl
set_option maxRecDepth 100000 in
theorem wy_X3_end : (Jvm.Cond.lays "ReportBlocks$Reader" "ReportBlocks$Reader" "end" "I") ∈ GB := gb_t (List.mem_of_getElem? (i := 63) rfl) rfl
set_option maxRecDepth 100000 in
theorem wy_X3_fault : (Jvm.Cond.lays "ReportBlocks$Reader" "ReportBlocks$Reader" "fault" "I") ∈ GB := gb_t (List.mem_of_getElem? (i := 65) rfl) rfl
set_option maxRecDepth 100000 in
theorem wy_X3_faultPlace : (Jvm.Cond.lays "ReportBlocks$Reader" "ReportBlocks$Reader" "faultPlace" "I") ∈ GB := gb_t (List.mem_of_getElem? (i := 67) rfl) rfl
set_option maxRecDepth 100000 in
theorem wk_X7_31 : (Jvm.Cond.classLink "ReportBlocks" (31 : Nat) "ReportBlocks$Block") ∈ GB := gb_t (List.mem_of_getElem? (i := 70) rfl) rfl
set_option maxRecDepth 100000 in
theorem wb_X0 : (Jvm.Cond.instantiable "ReportBlocks$Block" (7 : Nat)) ∈ GB := gb_t (List.mem_of_getElem? (i := 71) rfl) rfl
set_option maxRecDepth 100000 in
theorem wl_X7_33 : (Jvm.Cond.methodLink "ReportBlocks" (33 : Nat) ({ cls := "ReportBlocks$Block", name := "<init>", desc := "()V" } : Jvm.MethodName)) ∈ GB := gb_t (List.mem_of_getElem? (i := 72) rfl) rfl
set_option maxRecDepth 100000 in
theorem wi_X0_init : (Jvm.Cond.instanceMethod ({ cls := "ReportBlocks$Block", name := "<init>", desc := "()V" } : Jvm.MethodName)) ∈ GB := gb_t (List.mem_of_getElem? (i := 73) rfl) rfl
set_option maxRecDepth 100000 in
theorem wc_X0_init : Cond.code yX0_init cX0_init 1 (Option.none : Option Jvm.ClassFile.FieldType) ∈ GB := gb_t (List.mem_of_getElem? (i := 74) rfl) rfl
set_option maxRecDepth 100000 in
theorem wl_X0_3 : (Jvm.Cond.methodLink "ReportBlocks$Block" (3 : Nat) ({ cls := "java/lang/Object", name := "<init>", desc := "()V" } : Jvm.MethodName)) ∈ GB := gb_t (List.mem_of_getElem? (i := 75) rfl) rfl
set_option maxRecDepth 100000 in
theorem wf_X0_9 : (Jvm.Cond.fieldLink "ReportBlocks$Block" (9 : Nat) "ReportBlocks$Block" "category" "I") ∈ GB := gb_t (List.mem_of_getElem? (i := 76) rfl) rfl
set_option maxRecDepth 100000 in
theorem wf_X7_154 : (Jvm.Cond.fieldLink "ReportBlocks" (154 : Nat) "ReportBlocks$Block" "category" "I") ∈ GB := gb_t (List.mem_of_getElem? (i := 77) rfl) rfl
set_option maxRecDepth 100000 in
theorem wf_X0_28 : (Jvm.Cond.fieldLink "ReportBlocks$Block" (28 : Nat) "ReportBlocks$Block" "count" "I") ∈ GB := gb_t (List.mem_of_getElem? (i := 78) rfl) rfl
set_option maxRecDepth 100000 in
theorem wf_X7_151 : (Jvm.Cond.fieldLink "ReportBlocks" (151 : Nat) "ReportBlocks$Block" "count" "I") ∈ GB := gb_t (List.mem_of_getElem? (i := 79) rfl) rfl
set_option maxRecDepth 100000 in
theorem wf_X0_15 : (Jvm.Cond.fieldLink "ReportBlocks$Block" (15 : Nat) "ReportBlocks$Block" "bytes" "[I") ∈ GB := gb_t (List.mem_of_getElem? (i := 80) rfl) rfl
set_option maxRecDepth 100000 in
theorem wf_X7_166 : (Jvm.Cond.fieldLink "ReportBlocks" (166 : Nat) "ReportBlocks$Block" "bytes" "[I") ∈ GB := gb_t (List.mem_of_getElem? (i := 81) rfl) rfl
set_option maxRecDepth 100000 in
theorem wf_X0_43 : (Jvm.Cond.fieldLink "ReportBlocks$Block" (43 : Nat) "ReportBlocks$Block" "size" "I") ∈ GB := gb_t (List.mem_of_getElem? (i := 82) rfl) rfl
set_option maxRecDepth 100000 in
theorem wf_X0_19 : (Jvm.Cond.fieldLink "ReportBlocks$Block" (19 : Nat) "ReportBlocks$Block" "starts" "[I") ∈ GB := gb_t (List.mem_of_getElem? (i := 83) rfl) rfl
set_option maxRecDepth 100000 in
theorem wf_X7_226 : (Jvm.Cond.fieldLink "ReportBlocks" (226 : Nat) "ReportBlocks$Block" "starts" "[I") ∈ GB := gb_t (List.mem_of_getElem? (i := 84) rfl) rfl
set_option maxRecDepth 100000 in
theorem wf_X0_22 : (Jvm.Cond.fieldLink "ReportBlocks$Block" (22 : Nat) "ReportBlocks$Block" "begins" "[I") ∈ GB := gb_t (List.mem_of_getElem? (i := 85) rfl) rfl
set_option maxRecDepth 100000 in
theorem wf_X0_25 : (Jvm.Cond.fieldLink "ReportBlocks$Block" (25 : Nat) "ReportBlocks$Block" "sizes" "[I") ∈ GB := gb_t (List.mem_of_getElem? (i := 86) rfl) rfl
set_option maxRecDepth 100000 in
theorem wy_X0_category : (Jvm.Cond.lays "ReportBlocks$Block" "ReportBlocks$Block" "category" "I") ∈ GB := gb_t (List.mem_of_getElem? (i := 87) rfl) rfl
set_option maxRecDepth 100000 in
theorem wy_X0_count : (Jvm.Cond.lays "ReportBlocks$Block" "ReportBlocks$Block" "count" "I") ∈ GB := gb_t (List.mem_of_getElem? (i := 89) rfl) rfl
set_option maxRecDepth 100000 in
theorem wy_X0_bytes : (Jvm.Cond.laysFinal "ReportBlocks$Block" "ReportBlocks$Block" "bytes" "[I") ∈ GB := gb_t (List.mem_of_getElem? (i := 91) rfl) rfl
set_option maxRecDepth 100000 in
theorem wy_X0_size : (Jvm.Cond.lays "ReportBlocks$Block" "ReportBlocks$Block" "size" "I") ∈ GB := gb_t (List.mem_of_getElem? (i := 93) rfl) rfl
set_option maxRecDepth 100000 in
theorem wy_X0_starts : (Jvm.Cond.laysFinal "ReportBlocks$Block" "ReportBlocks$Block" "starts" "[I") ∈ GB := gb_t (List.mem_of_getElem? (i := 95) rfl) rfl
set_option maxRecDepth 100000 in
theorem wy_X0_begins : (Jvm.Cond.laysFinal "ReportBlocks$Block" "ReportBlocks$Block" "begins" "[I") ∈ GB := gb_t (List.mem_of_getElem? (i := 97) rfl) rfl
set_option maxRecDepth 100000 in
theorem wy_X0_sizes : (Jvm.Cond.laysFinal "ReportBlocks$Block" "ReportBlocks$Block" "sizes" "[I") ∈ GB := gb_t (List.mem_of_getElem? (i := 99) rfl) rfl
set_option maxRecDepth 100000 in
theorem wk_X7_41 : (Jvm.Cond.classLink "ReportBlocks" (41 : Nat) "ReportBlocks$OwnRecord") ∈ GB := gb_t (List.mem_of_getElem? (i := 102) rfl) rfl
set_option maxRecDepth 100000 in
theorem wb_X2 : (Jvm.Cond.instantiable "ReportBlocks$OwnRecord" (3 : Nat)) ∈ GB := gb_t (List.mem_of_getElem? (i := 103) rfl) rfl
set_option maxRecDepth 100000 in
theorem wl_X7_43 : (Jvm.Cond.methodLink "ReportBlocks" (43 : Nat) ({ cls := "ReportBlocks$OwnRecord", name := "<init>", desc := "()V" } : Jvm.MethodName)) ∈ GB := gb_t (List.mem_of_getElem? (i := 104) rfl) rfl
set_option maxRecDepth 100000 in
theorem wi_X2_init : (Jvm.Cond.instanceMethod ({ cls := "ReportBlocks$OwnRecord", name := "<init>", desc := "()V" } : Jvm.MethodName)) ∈ GB := gb_t (List.mem_of_getElem? (i := 105) rfl) rfl
set_option maxRecDepth 100000 in
theorem wc_X2_init : Cond.code yX2_init cX2_init 1 (Option.none : Option Jvm.ClassFile.FieldType) ∈ GB := gb_t (List.mem_of_getElem? (i := 106) rfl) rfl
set_option maxRecDepth 100000 in
theorem wl_X2_3 : (Jvm.Cond.methodLink "ReportBlocks$OwnRecord" (3 : Nat) ({ cls := "java/lang/Object", name := "<init>", desc := "()V" } : Jvm.MethodName)) ∈ GB := gb_t (List.mem_of_getElem? (i := 107) rfl) rfl
set_option maxRecDepth 100000 in
theorem wf_X2_9 : (Jvm.Cond.fieldLink "ReportBlocks$OwnRecord" (9 : Nat) "ReportBlocks$OwnRecord" "category" "I") ∈ GB := gb_t (List.mem_of_getElem? (i := 108) rfl) rfl
set_option maxRecDepth 100000 in
theorem wf_X7_182 : (Jvm.Cond.fieldLink "ReportBlocks" (182 : Nat) "ReportBlocks$OwnRecord" "category" "I") ∈ GB := gb_t (List.mem_of_getElem? (i := 109) rfl) rfl
set_option maxRecDepth 100000 in
theorem wf_X2_15 : (Jvm.Cond.fieldLink "ReportBlocks$OwnRecord" (15 : Nat) "ReportBlocks$OwnRecord" "bytes" "[I") ∈ GB := gb_t (List.mem_of_getElem? (i := 110) rfl) rfl
set_option maxRecDepth 100000 in
theorem wf_X7_215 : (Jvm.Cond.fieldLink "ReportBlocks" (215 : Nat) "ReportBlocks$OwnRecord" "bytes" "[I") ∈ GB := gb_t (List.mem_of_getElem? (i := 111) rfl) rfl
set_option maxRecDepth 100000 in
theorem wf_X2_19 : (Jvm.Cond.fieldLink "ReportBlocks$OwnRecord" (19 : Nat) "ReportBlocks$OwnRecord" "sizes" "[I") ∈ GB := gb_t (List.mem_of_getElem? (i := 112) rfl) rfl
set_option maxRecDepth 100000 in
theorem wf_X7_196 : (Jvm.Cond.fieldLink "ReportBlocks" (196 : Nat) "ReportBlocks$OwnRecord" "sizes" "[I") ∈ GB := gb_t (List.mem_of_getElem? (i := 113) rfl) rfl
set_option maxRecDepth 100000 in
theorem wy_X2_category : (Jvm.Cond.lays "ReportBlocks$OwnRecord" "ReportBlocks$OwnRecord" "category" "I") ∈ GB := gb_t (List.mem_of_getElem? (i := 114) rfl) rfl
set_option maxRecDepth 100000 in
theorem wy_X2_bytes : (Jvm.Cond.laysFinal "ReportBlocks$OwnRecord" "ReportBlocks$OwnRecord" "bytes" "[I") ∈ GB := gb_t (List.mem_of_getElem? (i := 116) rfl) rfl
set_option maxRecDepth 100000 in
theorem wy_X2_sizes : (Jvm.Cond.laysFinal "ReportBlocks$OwnRecord" "ReportBlocks$OwnRecord" "sizes" "[I") ∈ GB := gb_t (List.mem_of_getElem? (i := 118) rfl) rfl
set_option maxRecDepth 100000 in
theorem wk_X7_48 : (Jvm.Cond.classLink "ReportBlocks" (48 : Nat) "ReportBlocks$TrackRow") ∈ GB := gb_t (List.mem_of_getElem? (i := 121) rfl) rfl
set_option maxRecDepth 100000 in
theorem wb_X6 : (Jvm.Cond.instantiable "ReportBlocks$TrackRow" (5 : Nat)) ∈ GB := gb_t (List.mem_of_getElem? (i := 122) rfl) rfl
set_option maxRecDepth 100000 in
theorem wl_X7_50 : (Jvm.Cond.methodLink "ReportBlocks" (50 : Nat) ({ cls := "ReportBlocks$TrackRow", name := "<init>", desc := "()V" } : Jvm.MethodName)) ∈ GB := gb_t (List.mem_of_getElem? (i := 123) rfl) rfl
set_option maxRecDepth 100000 in
theorem wi_X6_init : (Jvm.Cond.instanceMethod ({ cls := "ReportBlocks$TrackRow", name := "<init>", desc := "()V" } : Jvm.MethodName)) ∈ GB := gb_t (List.mem_of_getElem? (i := 124) rfl) rfl
set_option maxRecDepth 100000 in
theorem wc_X6_init : Cond.code yX6_init cX6_init 2 (Option.none : Option Jvm.ClassFile.FieldType) ∈ GB := gb_t (List.mem_of_getElem? (i := 125) rfl) rfl
set_option maxRecDepth 100000 in
theorem wl_X6_3 : (Jvm.Cond.methodLink "ReportBlocks$TrackRow" (3 : Nat) ({ cls := "java/lang/Object", name := "<init>", desc := "()V" } : Jvm.MethodName)) ∈ GB := gb_t (List.mem_of_getElem? (i := 126) rfl) rfl
set_option maxRecDepth 100000 in
theorem wk_X6_9 : (Jvm.Cond.classLink "ReportBlocks$TrackRow" (9 : Nat) "ReportBlocks$Track") ∈ GB := gb_t (List.mem_of_getElem? (i := 127) rfl) rfl
set_option maxRecDepth 100000 in
theorem wq_X5 : (Jvm.Cond.arrayOver (Jvm.ClassFile.FieldType.object "ReportBlocks$Track")) ∈ lw_tbl := List.mem_append_right _ (List.mem_of_getElem? (i := 128) rfl)
set_option maxRecDepth 100000 in
theorem wb_X5 : (Jvm.Cond.instantiable "ReportBlocks$Track" (9 : Nat)) ∈ GB := gb_t (List.mem_of_getElem? (i := 129) rfl) rfl
set_option maxRecDepth 100000 in
theorem wz_X6_17 : (Jvm.Cond.methodLinkNest "ReportBlocks$TrackRow" (17 : Nat) ({ cls := "ReportBlocks$Track", name := "<init>", desc := "()V" } : Jvm.MethodName) "ReportBlocks") ∈ lw_tbl := List.mem_append_right _ (List.mem_of_getElem? (i := 130) rfl)
def nw_X6_17 : Cond := (Jvm.Cond.methodLinkNest "ReportBlocks$TrackRow" (17 : Nat) ({ cls := "ReportBlocks$Track", name := "<init>", desc := "()V" } : Jvm.MethodName) "ReportBlocks")
set_option maxRecDepth 100000 in
theorem wi_X5_init : (Jvm.Cond.instanceMethod ({ cls := "ReportBlocks$Track", name := "<init>", desc := "()V" } : Jvm.MethodName)) ∈ GB := gb_t (List.mem_of_getElem? (i := 131) rfl) rfl
set_option maxRecDepth 100000 in
theorem wc_X5_init : Cond.code yX5_init cX5_init 1 (Option.none : Option Jvm.ClassFile.FieldType) ∈ GB := gb_t (List.mem_of_getElem? (i := 132) rfl) rfl
set_option maxRecDepth 100000 in
theorem wl_X5_3 : (Jvm.Cond.methodLink "ReportBlocks$Track" (3 : Nat) ({ cls := "java/lang/Object", name := "<init>", desc := "()V" } : Jvm.MethodName)) ∈ GB := gb_t (List.mem_of_getElem? (i := 133) rfl) rfl
set_option maxRecDepth 100000 in
theorem wf_X5_9 : (Jvm.Cond.fieldLink "ReportBlocks$Track" (9 : Nat) "ReportBlocks$Track" "number" "I") ∈ GB := gb_t (List.mem_of_getElem? (i := 134) rfl) rfl
set_option maxRecDepth 100000 in
theorem wf_X6_22 : (Jvm.Cond.fieldLink "ReportBlocks$TrackRow" (22 : Nat) "ReportBlocks$Track" "number" "I") ∈ GB := gb_t (List.mem_of_getElem? (i := 135) rfl) rfl
set_option maxRecDepth 100000 in
theorem wf_X7_251 : (Jvm.Cond.fieldLink "ReportBlocks" (251 : Nat) "ReportBlocks$Track" "number" "I") ∈ GB := gb_t (List.mem_of_getElem? (i := 136) rfl) rfl
set_option maxRecDepth 100000 in
theorem wf_X5_43 : (Jvm.Cond.fieldLink "ReportBlocks$Track" (43 : Nat) "ReportBlocks$Track" "x" "I") ∈ GB := gb_t (List.mem_of_getElem? (i := 137) rfl) rfl
set_option maxRecDepth 100000 in
theorem wf_X7_254 : (Jvm.Cond.fieldLink "ReportBlocks" (254 : Nat) "ReportBlocks$Track" "x" "I") ∈ GB := gb_t (List.mem_of_getElem? (i := 138) rfl) rfl
set_option maxRecDepth 100000 in
theorem wf_X5_46 : (Jvm.Cond.fieldLink "ReportBlocks$Track" (46 : Nat) "ReportBlocks$Track" "y" "I") ∈ GB := gb_t (List.mem_of_getElem? (i := 139) rfl) rfl
set_option maxRecDepth 100000 in
theorem wf_X7_257 : (Jvm.Cond.fieldLink "ReportBlocks" (257 : Nat) "ReportBlocks$Track" "y" "I") ∈ GB := gb_t (List.mem_of_getElem? (i := 140) rfl) rfl
set_option maxRecDepth 100000 in
theorem wf_X5_18 : (Jvm.Cond.fieldLink "ReportBlocks$Track" (18 : Nat) "ReportBlocks$Track" "reportedX" "I") ∈ GB := gb_t (List.mem_of_getElem? (i := 141) rfl) rfl
set_option maxRecDepth 100000 in
theorem wf_X5_21 : (Jvm.Cond.fieldLink "ReportBlocks$Track" (21 : Nat) "ReportBlocks$Track" "reportedY" "I") ∈ GB := gb_t (List.mem_of_getElem? (i := 142) rfl) rfl
set_option maxRecDepth 100000 in
theorem wf_X5_37 : (Jvm.Cond.fieldLink "ReportBlocks$Track" (37 : Nat) "ReportBlocks$Track" "speedX" "I") ∈ GB := gb_t (List.mem_of_getElem? (i := 143) rfl) rfl
set_option maxRecDepth 100000 in
theorem wf_X7_260 : (Jvm.Cond.fieldLink "ReportBlocks" (260 : Nat) "ReportBlocks$Track" "speedX" "I") ∈ GB := gb_t (List.mem_of_getElem? (i := 144) rfl) rfl
set_option maxRecDepth 100000 in
theorem wf_X5_40 : (Jvm.Cond.fieldLink "ReportBlocks$Track" (40 : Nat) "ReportBlocks$Track" "speedY" "I") ∈ GB := gb_t (List.mem_of_getElem? (i := 145) rfl) rfl
set_option maxRecDepth 100000 in
theorem wf_X7_263 : (Jvm.Cond.fieldLink "ReportBlocks" (263 : Nat) "ReportBlocks$Track" "speedY" "I") ∈ GB := gb_t (List.mem_of_getElem? (i := 146) rfl) rfl
set_option maxRecDepth 100000 in
theorem wf_X5_28 : (Jvm.Cond.fieldLink "ReportBlocks$Track" (28 : Nat) "ReportBlocks$Track" "age" "I") ∈ GB := gb_t (List.mem_of_getElem? (i := 147) rfl) rfl
set_option maxRecDepth 100000 in
theorem wf_X6_42 : (Jvm.Cond.fieldLink "ReportBlocks$TrackRow" (42 : Nat) "ReportBlocks$Track" "age" "I") ∈ GB := gb_t (List.mem_of_getElem? (i := 148) rfl) rfl
set_option maxRecDepth 100000 in
theorem wf_X7_266 : (Jvm.Cond.fieldLink "ReportBlocks" (266 : Nat) "ReportBlocks$Track" "age" "I") ∈ GB := gb_t (List.mem_of_getElem? (i := 149) rfl) rfl
set_option maxRecDepth 100000 in
theorem wf_X5_15 : (Jvm.Cond.fieldLink "ReportBlocks$Track" (15 : Nat) "ReportBlocks$Track" "hits" "I") ∈ GB := gb_t (List.mem_of_getElem? (i := 150) rfl) rfl
set_option maxRecDepth 100000 in
theorem wf_X7_269 : (Jvm.Cond.fieldLink "ReportBlocks" (269 : Nat) "ReportBlocks$Track" "hits" "I") ∈ GB := gb_t (List.mem_of_getElem? (i := 151) rfl) rfl
set_option maxRecDepth 100000 in
theorem wy_X5_number : (Jvm.Cond.lays "ReportBlocks$Track" "ReportBlocks$Track" "number" "I") ∈ GB := gb_t (List.mem_of_getElem? (i := 152) rfl) rfl
set_option maxRecDepth 100000 in
theorem wy_X5_x : (Jvm.Cond.lays "ReportBlocks$Track" "ReportBlocks$Track" "x" "I") ∈ GB := gb_t (List.mem_of_getElem? (i := 154) rfl) rfl
set_option maxRecDepth 100000 in
theorem wy_X5_y : (Jvm.Cond.lays "ReportBlocks$Track" "ReportBlocks$Track" "y" "I") ∈ GB := gb_t (List.mem_of_getElem? (i := 156) rfl) rfl
set_option maxRecDepth 100000 in
theorem wy_X5_reportedX : (Jvm.Cond.lays "ReportBlocks$Track" "ReportBlocks$Track" "reportedX" "I") ∈ GB := gb_t (List.mem_of_getElem? (i := 158) rfl) rfl
set_option maxRecDepth 100000 in
theorem wy_X5_reportedY : (Jvm.Cond.lays "ReportBlocks$Track" "ReportBlocks$Track" "reportedY" "I") ∈ GB := gb_t (List.mem_of_getElem? (i := 160) rfl) rfl
set_option maxRecDepth 100000 in
theorem wy_X5_speedX : (Jvm.Cond.lays "ReportBlocks$Track" "ReportBlocks$Track" "speedX" "I") ∈ GB := gb_t (List.mem_of_getElem? (i := 162) rfl) rfl
set_option maxRecDepth 100000 in
theorem wy_X5_speedY : (Jvm.Cond.lays "ReportBlocks$Track" "ReportBlocks$Track" "speedY" "I") ∈ GB := gb_t (List.mem_of_getElem? (i := 164) rfl) rfl
set_option maxRecDepth 100000 in
theorem wy_X5_age : (Jvm.Cond.lays "ReportBlocks$Track" "ReportBlocks$Track" "age" "I") ∈ GB := gb_t (List.mem_of_getElem? (i := 166) rfl) rfl
set_option maxRecDepth 100000 in
theorem wy_X5_hits : (Jvm.Cond.lays "ReportBlocks$Track" "ReportBlocks$Track" "hits" "I") ∈ GB := gb_t (List.mem_of_getElem? (i := 168) rfl) rfl
set_option maxRecDepth 100000 in
theorem wf_X6_11 : (Jvm.Cond.fieldLink "ReportBlocks$TrackRow" (11 : Nat) "ReportBlocks$TrackRow" "tracks" "[LReportBlocks$Track;") ∈ GB := gb_t (List.mem_of_getElem? (i := 171) rfl) rfl
set_option maxRecDepth 100000 in
theorem wf_X7_247 : (Jvm.Cond.fieldLink "ReportBlocks" (247 : Nat) "ReportBlocks$TrackRow" "tracks" "[LReportBlocks$Track;") ∈ GB := gb_t (List.mem_of_getElem? (i := 172) rfl) rfl
set_option maxRecDepth 100000 in
theorem wf_X6_18 : (Jvm.Cond.fieldLink "ReportBlocks$TrackRow" (18 : Nat) "ReportBlocks$TrackRow" "size" "I") ∈ GB := gb_t (List.mem_of_getElem? (i := 173) rfl) rfl
set_option maxRecDepth 100000 in
theorem wf_X7_246 : (Jvm.Cond.fieldLink "ReportBlocks" (246 : Nat) "ReportBlocks$TrackRow" "size" "I") ∈ GB := gb_t (List.mem_of_getElem? (i := 174) rfl) rfl
set_option maxRecDepth 100000 in
theorem wf_X6_29 : (Jvm.Cond.fieldLink "ReportBlocks$TrackRow" (29 : Nat) "ReportBlocks$TrackRow" "lost" "I") ∈ GB := gb_t (List.mem_of_getElem? (i := 175) rfl) rfl
set_option maxRecDepth 100000 in
theorem wf_X7_272 : (Jvm.Cond.fieldLink "ReportBlocks" (272 : Nat) "ReportBlocks$TrackRow" "lost" "I") ∈ GB := gb_t (List.mem_of_getElem? (i := 176) rfl) rfl
set_option maxRecDepth 100000 in
theorem wf_X6_45 : (Jvm.Cond.fieldLink "ReportBlocks$TrackRow" (45 : Nat) "ReportBlocks$TrackRow" "dropped" "I") ∈ GB := gb_t (List.mem_of_getElem? (i := 177) rfl) rfl
set_option maxRecDepth 100000 in
theorem wf_X7_240 : (Jvm.Cond.fieldLink "ReportBlocks" (240 : Nat) "ReportBlocks$TrackRow" "dropped" "I") ∈ GB := gb_t (List.mem_of_getElem? (i := 178) rfl) rfl
set_option maxRecDepth 100000 in
theorem wf_X6_36 : (Jvm.Cond.fieldLink "ReportBlocks$TrackRow" (36 : Nat) "ReportBlocks$TrackRow" "ticks" "I") ∈ GB := gb_t (List.mem_of_getElem? (i := 179) rfl) rfl
set_option maxRecDepth 100000 in
theorem wf_X7_275 : (Jvm.Cond.fieldLink "ReportBlocks" (275 : Nat) "ReportBlocks$TrackRow" "ticks" "I") ∈ GB := gb_t (List.mem_of_getElem? (i := 180) rfl) rfl
set_option maxRecDepth 100000 in
theorem wy_X6_tracks : (Jvm.Cond.laysFinal "ReportBlocks$TrackRow" "ReportBlocks$TrackRow" "tracks" "[LReportBlocks$Track;") ∈ GB := gb_t (List.mem_of_getElem? (i := 181) rfl) rfl
set_option maxRecDepth 100000 in
theorem wy_X6_size : (Jvm.Cond.lays "ReportBlocks$TrackRow" "ReportBlocks$TrackRow" "size" "I") ∈ GB := gb_t (List.mem_of_getElem? (i := 183) rfl) rfl
set_option maxRecDepth 100000 in
theorem wy_X6_lost : (Jvm.Cond.lays "ReportBlocks$TrackRow" "ReportBlocks$TrackRow" "lost" "I") ∈ GB := gb_t (List.mem_of_getElem? (i := 185) rfl) rfl
set_option maxRecDepth 100000 in
theorem wy_X6_dropped : (Jvm.Cond.lays "ReportBlocks$TrackRow" "ReportBlocks$TrackRow" "dropped" "I") ∈ GB := gb_t (List.mem_of_getElem? (i := 187) rfl) rfl
set_option maxRecDepth 100000 in
theorem wy_X6_ticks : (Jvm.Cond.lays "ReportBlocks$TrackRow" "ReportBlocks$TrackRow" "ticks" "I") ∈ GB := gb_t (List.mem_of_getElem? (i := 189) rfl) rfl
set_option maxRecDepth 100000 in
theorem wf_X7_11 : (Jvm.Cond.fieldLink "ReportBlocks" (11 : Nat) "ReportBlocks" "categories" "[LReportBlocks$Category;") ∈ GB := gb_t (List.mem_of_getElem? (i := 192) rfl) rfl
set_option maxRecDepth 100000 in
theorem wf_X7_59 : (Jvm.Cond.fieldLink "ReportBlocks" (59 : Nat) "ReportBlocks" "categoryCount" "I") ∈ GB := gb_t (List.mem_of_getElem? (i := 193) rfl) rfl
set_option maxRecDepth 100000 in
theorem wf_X7_18 : (Jvm.Cond.fieldLink "ReportBlocks" (18 : Nat) "ReportBlocks" "belt" "LReportBlocks$Tape;") ∈ GB := gb_t (List.mem_of_getElem? (i := 194) rfl) rfl
set_option maxRecDepth 100000 in
theorem wf_X7_27 : (Jvm.Cond.fieldLink "ReportBlocks" (27 : Nat) "ReportBlocks" "reader" "LReportBlocks$Reader;") ∈ GB := gb_t (List.mem_of_getElem? (i := 195) rfl) rfl
set_option maxRecDepth 100000 in
theorem wf_X7_34 : (Jvm.Cond.fieldLink "ReportBlocks" (34 : Nat) "ReportBlocks" "latest" "LReportBlocks$Block;") ∈ GB := gb_t (List.mem_of_getElem? (i := 196) rfl) rfl
set_option maxRecDepth 100000 in
theorem wf_X7_38 : (Jvm.Cond.fieldLink "ReportBlocks" (38 : Nat) "ReportBlocks" "spare" "LReportBlocks$Block;") ∈ GB := gb_t (List.mem_of_getElem? (i := 197) rfl) rfl
set_option maxRecDepth 100000 in
theorem wf_X7_44 : (Jvm.Cond.fieldLink "ReportBlocks" (44 : Nat) "ReportBlocks" "own" "LReportBlocks$OwnRecord;") ∈ GB := gb_t (List.mem_of_getElem? (i := 198) rfl) rfl
set_option maxRecDepth 100000 in
theorem wf_X7_51 : (Jvm.Cond.fieldLink "ReportBlocks" (51 : Nat) "ReportBlocks" "row" "LReportBlocks$TrackRow;") ∈ GB := gb_t (List.mem_of_getElem? (i := 199) rfl) rfl
set_option maxRecDepth 100000 in
theorem wf_X7_129 : (Jvm.Cond.fieldLink "ReportBlocks" (129 : Nat) "ReportBlocks" "latestFault" "I") ∈ GB := gb_t (List.mem_of_getElem? (i := 200) rfl) rfl
set_option maxRecDepth 100000 in
theorem wf_X7_148 : (Jvm.Cond.fieldLink "ReportBlocks" (148 : Nat) "ReportBlocks" "blocksRead" "I") ∈ GB := gb_t (List.mem_of_getElem? (i := 201) rfl) rfl
set_option maxRecDepth 100000 in
theorem wy_X7_categories : (Jvm.Cond.laysFinal "ReportBlocks" "ReportBlocks" "categories" "[LReportBlocks$Category;") ∈ GB := gb_t (List.mem_of_getElem? (i := 202) rfl) rfl
set_option maxRecDepth 100000 in
theorem wy_X7_categoryCount : (Jvm.Cond.lays "ReportBlocks" "ReportBlocks" "categoryCount" "I") ∈ GB := gb_t (List.mem_of_getElem? (i := 204) rfl) rfl
set_option maxRecDepth 100000 in
theorem wy_X7_belt : (Jvm.Cond.laysFinal "ReportBlocks" "ReportBlocks" "belt" "LReportBlocks$Tape;") ∈ GB := gb_t (List.mem_of_getElem? (i := 206) rfl) rfl
set_option maxRecDepth 100000 in
theorem wy_X7_reader : (Jvm.Cond.laysFinal "ReportBlocks" "ReportBlocks" "reader" "LReportBlocks$Reader;") ∈ GB := gb_t (List.mem_of_getElem? (i := 208) rfl) rfl
set_option maxRecDepth 100000 in
theorem wy_X7_latest : (Jvm.Cond.lays "ReportBlocks" "ReportBlocks" "latest" "LReportBlocks$Block;") ∈ GB := gb_t (List.mem_of_getElem? (i := 210) rfl) rfl
set_option maxRecDepth 100000 in
theorem wy_X7_spare : (Jvm.Cond.lays "ReportBlocks" "ReportBlocks" "spare" "LReportBlocks$Block;") ∈ GB := gb_t (List.mem_of_getElem? (i := 212) rfl) rfl
set_option maxRecDepth 100000 in
theorem wy_X7_own : (Jvm.Cond.laysFinal "ReportBlocks" "ReportBlocks" "own" "LReportBlocks$OwnRecord;") ∈ GB := gb_t (List.mem_of_getElem? (i := 214) rfl) rfl
set_option maxRecDepth 100000 in
theorem wy_X7_row : (Jvm.Cond.laysFinal "ReportBlocks" "ReportBlocks" "row" "LReportBlocks$TrackRow;") ∈ GB := gb_t (List.mem_of_getElem? (i := 216) rfl) rfl
set_option maxRecDepth 100000 in
theorem wy_X7_latestFault : (Jvm.Cond.lays "ReportBlocks" "ReportBlocks" "latestFault" "I") ∈ GB := gb_t (List.mem_of_getElem? (i := 218) rfl) rfl
set_option maxRecDepth 100000 in
theorem wy_X7_blocksRead : (Jvm.Cond.lays "ReportBlocks" "ReportBlocks" "blocksRead" "I") ∈ GB := gb_t (List.mem_of_getElem? (i := 220) rfl) rfl
set_option maxRecDepth 100000 in
theorem wl_L_13 : (Jvm.Cond.methodLink "ReportBlocksLaw" (13 : Nat) ({ cls := "ReportBlocks", name := "category", desc := "(I)I" } : Jvm.MethodName)) ∈ GB := gb_t (List.mem_of_getElem? (i := 223) rfl) rfl
set_option maxRecDepth 100000 in
theorem wi_X7_category : (Jvm.Cond.instanceMethod ({ cls := "ReportBlocks", name := "category", desc := "(I)I" } : Jvm.MethodName)) ∈ GB := gb_t (List.mem_of_getElem? (i := 224) rfl) rfl
set_option maxRecDepth 100000 in
theorem wv_X7_category : (Jvm.Cond.selects "ReportBlocks" ({ cls := "ReportBlocks", name := "category", desc := "(I)I" } : Jvm.MethodName) ({ cls := "ReportBlocks", name := "category", desc := "(I)I" } : Jvm.MethodName)) ∈ GB := gb_t (List.mem_of_getElem? (i := 225) rfl) rfl
set_option maxRecDepth 100000 in
theorem wc_X7_category : Cond.code yX7_category cX7_category 2 (Option.some Jvm.ClassFile.FieldType.int) ∈ GB := gb_t (List.mem_of_getElem? (i := 226) rfl) rfl
set_option maxRecDepth 100000 in
theorem wl_X7_55 : (Jvm.Cond.methodLink "ReportBlocks" (55 : Nat) ({ cls := "ReportBlocks", name := "indexOfNumber", desc := "(I)I" } : Jvm.MethodName)) ∈ GB := gb_t (List.mem_of_getElem? (i := 227) rfl) rfl
set_option maxRecDepth 100000 in
theorem wi_X7_indexOfNumber : (Jvm.Cond.instanceMethod ({ cls := "ReportBlocks", name := "indexOfNumber", desc := "(I)I" } : Jvm.MethodName)) ∈ GB := gb_t (List.mem_of_getElem? (i := 229) rfl) rfl
set_option maxRecDepth 100000 in
theorem wc_X7_indexOfNumber : Cond.code yX7_indexOfNumber cX7_indexOfNumber 3 (Option.some Jvm.ClassFile.FieldType.int) ∈ GB := gb_t (List.mem_of_getElem? (i := 230) rfl) rfl
set_option maxRecDepth 100000 in
theorem wb_X1 : (Jvm.Cond.instantiable "ReportBlocks$Category" (6 : Nat)) ∈ GB := gb_t (List.mem_of_getElem? (i := 231) rfl) rfl
set_option maxRecDepth 100000 in
theorem wl_X7_63 : (Jvm.Cond.methodLink "ReportBlocks" (63 : Nat) ({ cls := "ReportBlocks$Category", name := "<init>", desc := "(I)V" } : Jvm.MethodName)) ∈ GB := gb_t (List.mem_of_getElem? (i := 232) rfl) rfl
set_option maxRecDepth 100000 in
theorem wi_X1_init : (Jvm.Cond.instanceMethod ({ cls := "ReportBlocks$Category", name := "<init>", desc := "(I)V" } : Jvm.MethodName)) ∈ GB := gb_t (List.mem_of_getElem? (i := 233) rfl) rfl
set_option maxRecDepth 100000 in
theorem wc_X1_init : Cond.code yX1_init cX1_init 2 (Option.none : Option Jvm.ClassFile.FieldType) ∈ GB := gb_t (List.mem_of_getElem? (i := 234) rfl) rfl
set_option maxRecDepth 100000 in
theorem wl_X1_3 : (Jvm.Cond.methodLink "ReportBlocks$Category" (3 : Nat) ({ cls := "java/lang/Object", name := "<init>", desc := "()V" } : Jvm.MethodName)) ∈ GB := gb_t (List.mem_of_getElem? (i := 235) rfl) rfl
set_option maxRecDepth 100000 in
theorem wl_X1_25 : (Jvm.Cond.methodLink "ReportBlocks$Category" (25 : Nat) ({ cls := "java/util/Arrays", name := "fill", desc := "([II)V" } : Jvm.MethodName)) ∈ GB := gb_t (List.mem_of_getElem? (i := 236) rfl) rfl
set_option maxRecDepth 100000 in
theorem wt_J7_fill_53178 : (Jvm.Cond.static ({ cls := "java/util/Arrays", name := "fill", desc := "([II)V" } : Jvm.MethodName)) ∈ GB := gb_t (List.mem_of_getElem? (i := 237) rfl) rfl
set_option maxRecDepth 100000 in
theorem wc_J7_fill_53178 : Cond.code yJ7_fill_53178 cJ7_fill_53178 4 (Option.none : Option Jvm.ClassFile.FieldType) ∈ GB := gb_t (List.mem_of_getElem? (i := 238) rfl) rfl
set_option maxRecDepth 100000 in
theorem wf_X1_9 : (Jvm.Cond.fieldLink "ReportBlocks$Category" (9 : Nat) "ReportBlocks$Category" "number" "I") ∈ GB := gb_t (List.mem_of_getElem? (i := 239) rfl) rfl
set_option maxRecDepth 100000 in
theorem wf_X7_204 : (Jvm.Cond.fieldLink "ReportBlocks" (204 : Nat) "ReportBlocks$Category" "number" "I") ∈ GB := gb_t (List.mem_of_getElem? (i := 240) rfl) rfl
set_option maxRecDepth 100000 in
theorem wf_X1_15 : (Jvm.Cond.fieldLink "ReportBlocks$Category" (15 : Nat) "ReportBlocks$Category" "kinds" "[I") ∈ GB := gb_t (List.mem_of_getElem? (i := 241) rfl) rfl
set_option maxRecDepth 100000 in
theorem wf_X7_81 : (Jvm.Cond.fieldLink "ReportBlocks" (81 : Nat) "ReportBlocks$Category" "kinds" "[I") ∈ GB := gb_t (List.mem_of_getElem? (i := 242) rfl) rfl
set_option maxRecDepth 100000 in
theorem wf_X3_63 : (Jvm.Cond.fieldLink "ReportBlocks$Reader" (63 : Nat) "ReportBlocks$Category" "kinds" "[I") ∈ GB := gb_t (List.mem_of_getElem? (i := 243) rfl) rfl
set_option maxRecDepth 100000 in
theorem wf_X1_19 : (Jvm.Cond.fieldLink "ReportBlocks$Category" (19 : Nat) "ReportBlocks$Category" "sizes" "[I") ∈ GB := gb_t (List.mem_of_getElem? (i := 244) rfl) rfl
set_option maxRecDepth 100000 in
theorem wf_X7_105 : (Jvm.Cond.fieldLink "ReportBlocks" (105 : Nat) "ReportBlocks$Category" "sizes" "[I") ∈ GB := gb_t (List.mem_of_getElem? (i := 245) rfl) rfl
set_option maxRecDepth 100000 in
theorem wf_X3_68 : (Jvm.Cond.fieldLink "ReportBlocks$Reader" (68 : Nat) "ReportBlocks$Category" "sizes" "[I") ∈ GB := gb_t (List.mem_of_getElem? (i := 246) rfl) rfl
set_option maxRecDepth 100000 in
theorem wf_X1_22 : (Jvm.Cond.fieldLink "ReportBlocks$Category" (22 : Nat) "ReportBlocks$Category" "parts" "[I") ∈ GB := gb_t (List.mem_of_getElem? (i := 247) rfl) rfl
set_option maxRecDepth 100000 in
theorem wf_X1_34 : (Jvm.Cond.fieldLink "ReportBlocks$Category" (34 : Nat) "ReportBlocks$Category" "numberPlace" "I") ∈ GB := gb_t (List.mem_of_getElem? (i := 248) rfl) rfl
set_option maxRecDepth 100000 in
theorem wf_X7_99 : (Jvm.Cond.fieldLink "ReportBlocks" (99 : Nat) "ReportBlocks$Category" "numberPlace" "I") ∈ GB := gb_t (List.mem_of_getElem? (i := 249) rfl) rfl
set_option maxRecDepth 100000 in
theorem wf_X1_41 : (Jvm.Cond.fieldLink "ReportBlocks$Category" (41 : Nat) "ReportBlocks$Category" "positionPlace" "I") ∈ GB := gb_t (List.mem_of_getElem? (i := 250) rfl) rfl
set_option maxRecDepth 100000 in
theorem wf_X7_102 : (Jvm.Cond.fieldLink "ReportBlocks" (102 : Nat) "ReportBlocks$Category" "positionPlace" "I") ∈ GB := gb_t (List.mem_of_getElem? (i := 251) rfl) rfl
set_option maxRecDepth 100000 in
theorem wy_X1_number : (Jvm.Cond.laysFinal "ReportBlocks$Category" "ReportBlocks$Category" "number" "I") ∈ GB := gb_t (List.mem_of_getElem? (i := 252) rfl) rfl
set_option maxRecDepth 100000 in
theorem wy_X1_kinds : (Jvm.Cond.laysFinal "ReportBlocks$Category" "ReportBlocks$Category" "kinds" "[I") ∈ GB := gb_t (List.mem_of_getElem? (i := 254) rfl) rfl
set_option maxRecDepth 100000 in
theorem wy_X1_sizes : (Jvm.Cond.laysFinal "ReportBlocks$Category" "ReportBlocks$Category" "sizes" "[I") ∈ GB := gb_t (List.mem_of_getElem? (i := 256) rfl) rfl
set_option maxRecDepth 100000 in
theorem wy_X1_parts : (Jvm.Cond.laysFinal "ReportBlocks$Category" "ReportBlocks$Category" "parts" "[I") ∈ GB := gb_t (List.mem_of_getElem? (i := 258) rfl) rfl
set_option maxRecDepth 100000 in
theorem wy_X1_numberPlace : (Jvm.Cond.lays "ReportBlocks$Category" "ReportBlocks$Category" "numberPlace" "I") ∈ GB := gb_t (List.mem_of_getElem? (i := 260) rfl) rfl
set_option maxRecDepth 100000 in
theorem wy_X1_positionPlace : (Jvm.Cond.lays "ReportBlocks$Category" "ReportBlocks$Category" "positionPlace" "I") ∈ GB := gb_t (List.mem_of_getElem? (i := 262) rfl) rfl
set_option maxRecDepth 100000 in
theorem wl_L_18 : (Jvm.Cond.methodLink "ReportBlocksLaw" (18 : Nat) ({ cls := "ReportBlocks", name := "item", desc := "(IIII)I" } : Jvm.MethodName)) ∈ GB := gb_t (List.mem_of_getElem? (i := 265) rfl) rfl
set_option maxRecDepth 100000 in
theorem wi_X7_item : (Jvm.Cond.instanceMethod ({ cls := "ReportBlocks", name := "item", desc := "(IIII)I" } : Jvm.MethodName)) ∈ GB := gb_t (List.mem_of_getElem? (i := 266) rfl) rfl
set_option maxRecDepth 100000 in
theorem wv_X7_item : (Jvm.Cond.selects "ReportBlocks" ({ cls := "ReportBlocks", name := "item", desc := "(IIII)I" } : Jvm.MethodName) ({ cls := "ReportBlocks", name := "item", desc := "(IIII)I" } : Jvm.MethodName)) ∈ GB := gb_t (List.mem_of_getElem? (i := 267) rfl) rfl
set_option maxRecDepth 100000 in
theorem wc_X7_item : Cond.code yX7_item cX7_item 7 (Option.some Jvm.ClassFile.FieldType.int) ∈ GB := gb_t (List.mem_of_getElem? (i := 268) rfl) rfl
set_option maxRecDepth 100000 in
theorem wl_X7_66 : (Jvm.Cond.methodLink "ReportBlocks" (66 : Nat) ({ cls := "ReportBlocks", name := "categoryAt", desc := "(I)LReportBlocks$Category;" } : Jvm.MethodName)) ∈ GB := gb_t (List.mem_of_getElem? (i := 269) rfl) rfl
set_option maxRecDepth 100000 in
theorem wi_X7_categoryAt : (Jvm.Cond.instanceMethod ({ cls := "ReportBlocks", name := "categoryAt", desc := "(I)LReportBlocks$Category;" } : Jvm.MethodName)) ∈ GB := gb_t (List.mem_of_getElem? (i := 271) rfl) rfl
set_option maxRecDepth 100000 in
theorem wc_X7_categoryAt : Cond.code yX7_categoryAt cX7_categoryAt 2 (Option.some (Jvm.ClassFile.FieldType.object "ReportBlocks$Category")) ∈ GB := gb_t (List.mem_of_getElem? (i := 272) rfl) rfl
set_option maxRecDepth 100000 in
theorem wl_X7_70 : (Jvm.Cond.methodLink "ReportBlocks" (70 : Nat) ({ cls := "ReportBlocks", name := "isPlace", desc := "(I)Z" } : Jvm.MethodName)) ∈ GB := gb_t (List.mem_of_getElem? (i := 273) rfl) rfl
set_option maxRecDepth 100000 in
theorem wt_X7_isPlace : (Jvm.Cond.static ({ cls := "ReportBlocks", name := "isPlace", desc := "(I)Z" } : Jvm.MethodName)) ∈ GB := gb_t (List.mem_of_getElem? (i := 274) rfl) rfl
set_option maxRecDepth 100000 in
theorem wc_X7_isPlace : Cond.code yX7_isPlace cX7_isPlace 1 (Option.some Jvm.ClassFile.FieldType.boolean) ∈ GB := gb_t (List.mem_of_getElem? (i := 275) rfl) rfl
set_option maxRecDepth 100000 in
theorem wl_X7_74 : (Jvm.Cond.methodLink "ReportBlocks" (74 : Nat) ({ cls := "ReportBlocks", name := "isItem", desc := "(II)Z" } : Jvm.MethodName)) ∈ GB := gb_t (List.mem_of_getElem? (i := 276) rfl) rfl
set_option maxRecDepth 100000 in
theorem wt_X7_isItem : (Jvm.Cond.static ({ cls := "ReportBlocks", name := "isItem", desc := "(II)Z" } : Jvm.MethodName)) ∈ GB := gb_t (List.mem_of_getElem? (i := 277) rfl) rfl
set_option maxRecDepth 100000 in
theorem wc_X7_isItem : Cond.code yX7_isItem cX7_isItem 2 (Option.some Jvm.ClassFile.FieldType.boolean) ∈ GB := gb_t (List.mem_of_getElem? (i := 278) rfl) rfl
set_option maxRecDepth 100000 in
theorem wl_X7_78 : (Jvm.Cond.methodLink "ReportBlocks" (78 : Nat) ({ cls := "ReportBlocks", name := "isInUse", desc := "(I)Z" } : Jvm.MethodName)) ∈ GB := gb_t (List.mem_of_getElem? (i := 279) rfl) rfl
set_option maxRecDepth 100000 in
theorem wi_X7_isInUse : (Jvm.Cond.instanceMethod ({ cls := "ReportBlocks", name := "isInUse", desc := "(I)Z" } : Jvm.MethodName)) ∈ GB := gb_t (List.mem_of_getElem? (i := 281) rfl) rfl
set_option maxRecDepth 100000 in
theorem wc_X7_isInUse : Cond.code yX7_isInUse cX7_isInUse 2 (Option.some Jvm.ClassFile.FieldType.boolean) ∈ GB := gb_t (List.mem_of_getElem? (i := 282) rfl) rfl
set_option maxRecDepth 100000 in
theorem wl_X7_85 : (Jvm.Cond.methodLink "ReportBlocks" (85 : Nat) ({ cls := "ReportBlocks$Category", name := "putItem", desc := "(III)V" } : Jvm.MethodName)) ∈ GB := gb_t (List.mem_of_getElem? (i := 283) rfl) rfl
set_option maxRecDepth 100000 in
theorem wi_X1_putItem : (Jvm.Cond.instanceMethod ({ cls := "ReportBlocks$Category", name := "putItem", desc := "(III)V" } : Jvm.MethodName)) ∈ GB := gb_t (List.mem_of_getElem? (i := 284) rfl) rfl
set_option maxRecDepth 100000 in
theorem wv_X1_putItem : (Jvm.Cond.selects "ReportBlocks$Category" ({ cls := "ReportBlocks$Category", name := "putItem", desc := "(III)V" } : Jvm.MethodName) ({ cls := "ReportBlocks$Category", name := "putItem", desc := "(III)V" } : Jvm.MethodName)) ∈ GB := gb_t (List.mem_of_getElem? (i := 285) rfl) rfl
set_option maxRecDepth 100000 in
theorem wc_X1_putItem : Cond.code yX1_putItem cX1_putItem 4 (Option.none : Option Jvm.ClassFile.FieldType) ∈ GB := gb_t (List.mem_of_getElem? (i := 286) rfl) rfl
set_option maxRecDepth 100000 in
theorem wl_X1_31 : (Jvm.Cond.methodLink "ReportBlocks$Category" (31 : Nat) ({ cls := "java/util/Arrays", name := "fill", desc := "([IIII)V" } : Jvm.MethodName)) ∈ GB := gb_t (List.mem_of_getElem? (i := 287) rfl) rfl
set_option maxRecDepth 100000 in
theorem wt_J7_fill_fda19 : (Jvm.Cond.static ({ cls := "java/util/Arrays", name := "fill", desc := "([IIII)V" } : Jvm.MethodName)) ∈ GB := gb_t (List.mem_of_getElem? (i := 288) rfl) rfl
set_option maxRecDepth 100000 in
theorem wc_J7_fill_fda19 : Cond.code yJ7_fill_fda19 cJ7_fill_fda19 5 (Option.none : Option Jvm.ClassFile.FieldType) ∈ GB := gb_t (List.mem_of_getElem? (i := 289) rfl) rfl
set_option maxRecDepth 100000 in
theorem wl_J7_13 : (Jvm.Cond.methodLink "java/util/Arrays" (13 : Nat) ({ cls := "java/util/Arrays", name := "rangeCheck", desc := "(III)V" } : Jvm.MethodName)) ∈ GB := gb_t (List.mem_of_getElem? (i := 290) rfl) rfl
set_option maxRecDepth 100000 in
theorem wt_J7_rangeCheck_23922 : (Jvm.Cond.static ({ cls := "java/util/Arrays", name := "rangeCheck", desc := "(III)V" } : Jvm.MethodName)) ∈ GB := gb_t (List.mem_of_getElem? (i := 291) rfl) rfl
set_option maxRecDepth 100000 in
theorem wc_J7_rangeCheck_23922 : Cond.code yJ7_rangeCheck_23922 cJ7_rangeCheck_23922 3 (Option.none : Option Jvm.ClassFile.FieldType) ∈ GB := gb_t (List.mem_of_getElem? (i := 292) rfl) rfl
set_option maxRecDepth 100000 in
theorem wl_L_23 : (Jvm.Cond.methodLink "ReportBlocksLaw" (23 : Nat) ({ cls := "ReportBlocks", name := "part", desc := "(IIII)I" } : Jvm.MethodName)) ∈ GB := gb_t (List.mem_of_getElem? (i := 293) rfl) rfl
set_option maxRecDepth 100000 in
theorem wi_X7_part : (Jvm.Cond.instanceMethod ({ cls := "ReportBlocks", name := "part", desc := "(IIII)I" } : Jvm.MethodName)) ∈ GB := gb_t (List.mem_of_getElem? (i := 294) rfl) rfl
set_option maxRecDepth 100000 in
theorem wv_X7_part : (Jvm.Cond.selects "ReportBlocks" ({ cls := "ReportBlocks", name := "part", desc := "(IIII)I" } : Jvm.MethodName) ({ cls := "ReportBlocks", name := "part", desc := "(IIII)I" } : Jvm.MethodName)) ∈ GB := gb_t (List.mem_of_getElem? (i := 295) rfl) rfl
set_option maxRecDepth 100000 in
theorem wc_X7_part : Cond.code yX7_part cX7_part 7 (Option.some Jvm.ClassFile.FieldType.int) ∈ GB := gb_t (List.mem_of_getElem? (i := 296) rfl) rfl
set_option maxRecDepth 100000 in
theorem wl_X7_89 : (Jvm.Cond.methodLink "ReportBlocks" (89 : Nat) ({ cls := "ReportBlocks$Category", name := "partBytes", desc := "(II)I" } : Jvm.MethodName)) ∈ GB := gb_t (List.mem_of_getElem? (i := 297) rfl) rfl
set_option maxRecDepth 100000 in
theorem wi_X1_partBytes : (Jvm.Cond.instanceMethod ({ cls := "ReportBlocks$Category", name := "partBytes", desc := "(II)I" } : Jvm.MethodName)) ∈ GB := gb_t (List.mem_of_getElem? (i := 298) rfl) rfl
set_option maxRecDepth 100000 in
theorem wv_X1_partBytes : (Jvm.Cond.selects "ReportBlocks$Category" ({ cls := "ReportBlocks$Category", name := "partBytes", desc := "(II)I" } : Jvm.MethodName) ({ cls := "ReportBlocks$Category", name := "partBytes", desc := "(II)I" } : Jvm.MethodName)) ∈ GB := gb_t (List.mem_of_getElem? (i := 299) rfl) rfl
set_option maxRecDepth 100000 in
theorem wc_X1_partBytes : Cond.code yX1_partBytes cX1_partBytes 3 (Option.some Jvm.ClassFile.FieldType.int) ∈ GB := gb_t (List.mem_of_getElem? (i := 300) rfl) rfl
set_option maxRecDepth 100000 in
theorem wl_X7_93 : (Jvm.Cond.methodLink "ReportBlocks" (93 : Nat) ({ cls := "ReportBlocks$Category", name := "putPart", desc := "(III)V" } : Jvm.MethodName)) ∈ GB := gb_t (List.mem_of_getElem? (i := 301) rfl) rfl
set_option maxRecDepth 100000 in
theorem wi_X1_putPart : (Jvm.Cond.instanceMethod ({ cls := "ReportBlocks$Category", name := "putPart", desc := "(III)V" } : Jvm.MethodName)) ∈ GB := gb_t (List.mem_of_getElem? (i := 302) rfl) rfl
set_option maxRecDepth 100000 in
theorem wv_X1_putPart : (Jvm.Cond.selects "ReportBlocks$Category" ({ cls := "ReportBlocks$Category", name := "putPart", desc := "(III)V" } : Jvm.MethodName) ({ cls := "ReportBlocks$Category", name := "putPart", desc := "(III)V" } : Jvm.MethodName)) ∈ GB := gb_t (List.mem_of_getElem? (i := 303) rfl) rfl
set_option maxRecDepth 100000 in
theorem wc_X1_putPart : Cond.code yX1_putPart cX1_putPart 4 (Option.none : Option Jvm.ClassFile.FieldType) ∈ GB := gb_t (List.mem_of_getElem? (i := 304) rfl) rfl
set_option maxRecDepth 100000 in
theorem wl_L_27 : (Jvm.Cond.methodLink "ReportBlocksLaw" (27 : Nat) ({ cls := "ReportBlocks", name := "tells", desc := "(III)I" } : Jvm.MethodName)) ∈ GB := gb_t (List.mem_of_getElem? (i := 305) rfl) rfl
set_option maxRecDepth 100000 in
theorem wi_X7_tells : (Jvm.Cond.instanceMethod ({ cls := "ReportBlocks", name := "tells", desc := "(III)I" } : Jvm.MethodName)) ∈ GB := gb_t (List.mem_of_getElem? (i := 306) rfl) rfl
set_option maxRecDepth 100000 in
theorem wv_X7_tells : (Jvm.Cond.selects "ReportBlocks" ({ cls := "ReportBlocks", name := "tells", desc := "(III)I" } : Jvm.MethodName) ({ cls := "ReportBlocks", name := "tells", desc := "(III)I" } : Jvm.MethodName)) ∈ GB := gb_t (List.mem_of_getElem? (i := 307) rfl) rfl
set_option maxRecDepth 100000 in
theorem wc_X7_tells : Cond.code yX7_tells cX7_tells 5 (Option.some Jvm.ClassFile.FieldType.int) ∈ GB := gb_t (List.mem_of_getElem? (i := 308) rfl) rfl
set_option maxRecDepth 100000 in
theorem wl_X7_96 : (Jvm.Cond.methodLink "ReportBlocks" (96 : Nat) ({ cls := "ReportBlocks$Category", name := "isFixed", desc := "(II)Z" } : Jvm.MethodName)) ∈ GB := gb_t (List.mem_of_getElem? (i := 309) rfl) rfl
set_option maxRecDepth 100000 in
theorem wi_X1_isFixed : (Jvm.Cond.instanceMethod ({ cls := "ReportBlocks$Category", name := "isFixed", desc := "(II)Z" } : Jvm.MethodName)) ∈ GB := gb_t (List.mem_of_getElem? (i := 310) rfl) rfl
set_option maxRecDepth 100000 in
theorem wv_X1_isFixed : (Jvm.Cond.selects "ReportBlocks$Category" ({ cls := "ReportBlocks$Category", name := "isFixed", desc := "(II)Z" } : Jvm.MethodName) ({ cls := "ReportBlocks$Category", name := "isFixed", desc := "(II)Z" } : Jvm.MethodName)) ∈ GB := gb_t (List.mem_of_getElem? (i := 311) rfl) rfl
set_option maxRecDepth 100000 in
theorem wc_X1_isFixed : Cond.code yX1_isFixed cX1_isFixed 3 (Option.some Jvm.ClassFile.FieldType.boolean) ∈ GB := gb_t (List.mem_of_getElem? (i := 312) rfl) rfl
set_option maxRecDepth 100000 in
theorem wl_L_32 : (Jvm.Cond.methodLink "ReportBlocksLaw" (32 : Nat) ({ cls := "ReportBlocks", name := "table", desc := "(III)I" } : Jvm.MethodName)) ∈ GB := gb_t (List.mem_of_getElem? (i := 313) rfl) rfl
set_option maxRecDepth 100000 in
theorem wi_X7_table : (Jvm.Cond.instanceMethod ({ cls := "ReportBlocks", name := "table", desc := "(III)I" } : Jvm.MethodName)) ∈ GB := gb_t (List.mem_of_getElem? (i := 314) rfl) rfl
set_option maxRecDepth 100000 in
theorem wv_X7_table : (Jvm.Cond.selects "ReportBlocks" ({ cls := "ReportBlocks", name := "table", desc := "(III)I" } : Jvm.MethodName) ({ cls := "ReportBlocks", name := "table", desc := "(III)I" } : Jvm.MethodName)) ∈ GB := gb_t (List.mem_of_getElem? (i := 315) rfl) rfl
set_option maxRecDepth 100000 in
theorem wc_X7_table : Cond.code yX7_table cX7_table 5 (Option.some Jvm.ClassFile.FieldType.int) ∈ GB := gb_t (List.mem_of_getElem? (i := 316) rfl) rfl
set_option maxRecDepth 100000 in
theorem wl_L_38 : (Jvm.Cond.methodLink "ReportBlocksLaw" (38 : Nat) ({ cls := "ReportBlocks", name := "feed", desc := "(JI)I" } : Jvm.MethodName)) ∈ GB := gb_t (List.mem_of_getElem? (i := 317) rfl) rfl
set_option maxRecDepth 100000 in
theorem wi_X7_feed : (Jvm.Cond.instanceMethod ({ cls := "ReportBlocks", name := "feed", desc := "(JI)I" } : Jvm.MethodName)) ∈ GB := gb_t (List.mem_of_getElem? (i := 318) rfl) rfl
set_option maxRecDepth 100000 in
theorem wv_X7_feed : (Jvm.Cond.selects "ReportBlocks" ({ cls := "ReportBlocks", name := "feed", desc := "(JI)I" } : Jvm.MethodName) ({ cls := "ReportBlocks", name := "feed", desc := "(JI)I" } : Jvm.MethodName)) ∈ GB := gb_t (List.mem_of_getElem? (i := 319) rfl) rfl
set_option maxRecDepth 100000 in
theorem wc_X7_feed : Cond.code yX7_feed cX7_feed 5 (Option.some Jvm.ClassFile.FieldType.int) ∈ GB := gb_t (List.mem_of_getElem? (i := 320) rfl) rfl
set_option maxRecDepth 100000 in
theorem wl_X7_108 : (Jvm.Cond.methodLink "ReportBlocks" (108 : Nat) ({ cls := "ReportBlocks$Tape", name := "hasRoom", desc := "(I)Z" } : Jvm.MethodName)) ∈ GB := gb_t (List.mem_of_getElem? (i := 321) rfl) rfl
set_option maxRecDepth 100000 in
theorem wi_X4_hasRoom : (Jvm.Cond.instanceMethod ({ cls := "ReportBlocks$Tape", name := "hasRoom", desc := "(I)Z" } : Jvm.MethodName)) ∈ GB := gb_t (List.mem_of_getElem? (i := 322) rfl) rfl
set_option maxRecDepth 100000 in
theorem wv_X4_hasRoom : (Jvm.Cond.selects "ReportBlocks$Tape" ({ cls := "ReportBlocks$Tape", name := "hasRoom", desc := "(I)Z" } : Jvm.MethodName) ({ cls := "ReportBlocks$Tape", name := "hasRoom", desc := "(I)Z" } : Jvm.MethodName)) ∈ GB := gb_t (List.mem_of_getElem? (i := 323) rfl) rfl
set_option maxRecDepth 100000 in
theorem wc_X4_hasRoom : Cond.code yX4_hasRoom cX4_hasRoom 2 (Option.some Jvm.ClassFile.FieldType.boolean) ∈ GB := gb_t (List.mem_of_getElem? (i := 324) rfl) rfl
set_option maxRecDepth 100000 in
theorem wl_X7_111 : (Jvm.Cond.methodLink "ReportBlocks" (111 : Nat) ({ cls := "ReportBlocks$Tape", name := "put", desc := "(I)V" } : Jvm.MethodName)) ∈ GB := gb_t (List.mem_of_getElem? (i := 325) rfl) rfl
set_option maxRecDepth 100000 in
theorem wi_X4_put : (Jvm.Cond.instanceMethod ({ cls := "ReportBlocks$Tape", name := "put", desc := "(I)V" } : Jvm.MethodName)) ∈ GB := gb_t (List.mem_of_getElem? (i := 326) rfl) rfl
set_option maxRecDepth 100000 in
theorem wv_X4_put : (Jvm.Cond.selects "ReportBlocks$Tape" ({ cls := "ReportBlocks$Tape", name := "put", desc := "(I)V" } : Jvm.MethodName) ({ cls := "ReportBlocks$Tape", name := "put", desc := "(I)V" } : Jvm.MethodName)) ∈ GB := gb_t (List.mem_of_getElem? (i := 327) rfl) rfl
set_option maxRecDepth 100000 in
theorem wc_X4_put : Cond.code yX4_put cX4_put 2 (Option.none : Option Jvm.ClassFile.FieldType) ∈ GB := gb_t (List.mem_of_getElem? (i := 328) rfl) rfl
set_option maxRecDepth 100000 in
theorem wl_L_43 : (Jvm.Cond.methodLink "ReportBlocksLaw" (43 : Nat) ({ cls := "ReportBlocks", name := "tear", desc := "()I" } : Jvm.MethodName)) ∈ GB := gb_t (List.mem_of_getElem? (i := 329) rfl) rfl
set_option maxRecDepth 100000 in
theorem wi_X7_tear : (Jvm.Cond.instanceMethod ({ cls := "ReportBlocks", name := "tear", desc := "()I" } : Jvm.MethodName)) ∈ GB := gb_t (List.mem_of_getElem? (i := 330) rfl) rfl
set_option maxRecDepth 100000 in
theorem wv_X7_tear : (Jvm.Cond.selects "ReportBlocks" ({ cls := "ReportBlocks", name := "tear", desc := "()I" } : Jvm.MethodName) ({ cls := "ReportBlocks", name := "tear", desc := "()I" } : Jvm.MethodName)) ∈ GB := gb_t (List.mem_of_getElem? (i := 331) rfl) rfl
set_option maxRecDepth 100000 in
theorem wc_X7_tear : Cond.code yX7_tear cX7_tear 2 (Option.some Jvm.ClassFile.FieldType.int) ∈ GB := gb_t (List.mem_of_getElem? (i := 332) rfl) rfl
set_option maxRecDepth 100000 in
theorem wl_L_48 : (Jvm.Cond.methodLink "ReportBlocksLaw" (48 : Nat) ({ cls := "ReportBlocks", name := "read", desc := "()I" } : Jvm.MethodName)) ∈ GB := gb_t (List.mem_of_getElem? (i := 333) rfl) rfl
set_option maxRecDepth 100000 in
theorem wi_X7_read : (Jvm.Cond.instanceMethod ({ cls := "ReportBlocks", name := "read", desc := "()I" } : Jvm.MethodName)) ∈ GB := gb_t (List.mem_of_getElem? (i := 334) rfl) rfl
set_option maxRecDepth 100000 in
theorem wv_X7_read : (Jvm.Cond.selects "ReportBlocks" ({ cls := "ReportBlocks", name := "read", desc := "()I" } : Jvm.MethodName) ({ cls := "ReportBlocks", name := "read", desc := "()I" } : Jvm.MethodName)) ∈ GB := gb_t (List.mem_of_getElem? (i := 335) rfl) rfl
set_option maxRecDepth 100000 in
theorem wc_X7_read : Cond.code yX7_read cX7_read 2 (Option.some Jvm.ClassFile.FieldType.int) ∈ GB := gb_t (List.mem_of_getElem? (i := 336) rfl) rfl
set_option maxRecDepth 100000 in
theorem wl_X7_117 : (Jvm.Cond.methodLink "ReportBlocks" (117 : Nat) ({ cls := "ReportBlocks$Block", name := "clear", desc := "()V" } : Jvm.MethodName)) ∈ GB := gb_t (List.mem_of_getElem? (i := 337) rfl) rfl
set_option maxRecDepth 100000 in
theorem wi_X0_clear : (Jvm.Cond.instanceMethod ({ cls := "ReportBlocks$Block", name := "clear", desc := "()V" } : Jvm.MethodName)) ∈ GB := gb_t (List.mem_of_getElem? (i := 338) rfl) rfl
set_option maxRecDepth 100000 in
theorem wv_X0_clear : (Jvm.Cond.selects "ReportBlocks$Block" ({ cls := "ReportBlocks$Block", name := "clear", desc := "()V" } : Jvm.MethodName) ({ cls := "ReportBlocks$Block", name := "clear", desc := "()V" } : Jvm.MethodName)) ∈ GB := gb_t (List.mem_of_getElem? (i := 339) rfl) rfl
set_option maxRecDepth 100000 in
theorem wc_X0_clear : Cond.code yX0_clear cX0_clear 1 (Option.none : Option Jvm.ClassFile.FieldType) ∈ GB := gb_t (List.mem_of_getElem? (i := 340) rfl) rfl
set_option maxRecDepth 100000 in
theorem wl_X0_31 : (Jvm.Cond.methodLink "ReportBlocks$Block" (31 : Nat) ({ cls := "java/util/Arrays", name := "fill", desc := "([II)V" } : Jvm.MethodName)) ∈ GB := gb_t (List.mem_of_getElem? (i := 341) rfl) rfl
set_option maxRecDepth 100000 in
theorem wl_X7_120 : (Jvm.Cond.methodLink "ReportBlocks" (120 : Nat) ({ cls := "ReportBlocks$Reader", name := "start", desc := "(I)V" } : Jvm.MethodName)) ∈ GB := gb_t (List.mem_of_getElem? (i := 342) rfl) rfl
set_option maxRecDepth 100000 in
theorem wi_X3_start : (Jvm.Cond.instanceMethod ({ cls := "ReportBlocks$Reader", name := "start", desc := "(I)V" } : Jvm.MethodName)) ∈ GB := gb_t (List.mem_of_getElem? (i := 343) rfl) rfl
set_option maxRecDepth 100000 in
theorem wv_X3_start : (Jvm.Cond.selects "ReportBlocks$Reader" ({ cls := "ReportBlocks$Reader", name := "start", desc := "(I)V" } : Jvm.MethodName) ({ cls := "ReportBlocks$Reader", name := "start", desc := "(I)V" } : Jvm.MethodName)) ∈ GB := gb_t (List.mem_of_getElem? (i := 344) rfl) rfl
set_option maxRecDepth 100000 in
theorem wc_X3_start : Cond.code yX3_start cX3_start 2 (Option.none : Option Jvm.ClassFile.FieldType) ∈ GB := gb_t (List.mem_of_getElem? (i := 345) rfl) rfl
set_option maxRecDepth 100000 in
theorem wl_X7_123 : (Jvm.Cond.methodLink "ReportBlocks" (123 : Nat) ({ cls := "ReportBlocks", name := "passBlock", desc := "()V" } : Jvm.MethodName)) ∈ GB := gb_t (List.mem_of_getElem? (i := 346) rfl) rfl
set_option maxRecDepth 100000 in
theorem wi_X7_passBlock : (Jvm.Cond.instanceMethod ({ cls := "ReportBlocks", name := "passBlock", desc := "()V" } : Jvm.MethodName)) ∈ GB := gb_t (List.mem_of_getElem? (i := 348) rfl) rfl
set_option maxRecDepth 100000 in
theorem wc_X7_passBlock : Cond.code yX7_passBlock cX7_passBlock 5 (Option.none : Option Jvm.ClassFile.FieldType) ∈ GB := gb_t (List.mem_of_getElem? (i := 349) rfl) rfl
set_option maxRecDepth 100000 in
theorem wl_X7_278 : (Jvm.Cond.methodLink "ReportBlocks" (278 : Nat) ({ cls := "ReportBlocks$Reader", name := "fail", desc := "(II)V" } : Jvm.MethodName)) ∈ GB := gb_t (List.mem_of_getElem? (i := 350) rfl) rfl
set_option maxRecDepth 100000 in
theorem wi_X3_fail : (Jvm.Cond.instanceMethod ({ cls := "ReportBlocks$Reader", name := "fail", desc := "(II)V" } : Jvm.MethodName)) ∈ GB := gb_t (List.mem_of_getElem? (i := 351) rfl) rfl
set_option maxRecDepth 100000 in
theorem wv_X3_fail : (Jvm.Cond.selects "ReportBlocks$Reader" ({ cls := "ReportBlocks$Reader", name := "fail", desc := "(II)V" } : Jvm.MethodName) ({ cls := "ReportBlocks$Reader", name := "fail", desc := "(II)V" } : Jvm.MethodName)) ∈ GB := gb_t (List.mem_of_getElem? (i := 352) rfl) rfl
set_option maxRecDepth 100000 in
theorem wc_X3_fail : Cond.code yX3_fail cX3_fail 3 (Option.none : Option Jvm.ClassFile.FieldType) ∈ GB := gb_t (List.mem_of_getElem? (i := 353) rfl) rfl
set_option maxRecDepth 100000 in
theorem wl_X7_281 : (Jvm.Cond.methodLink "ReportBlocks" (281 : Nat) ({ cls := "ReportBlocks$Reader", name := "hasMore", desc := "()Z" } : Jvm.MethodName)) ∈ GB := gb_t (List.mem_of_getElem? (i := 354) rfl) rfl
set_option maxRecDepth 100000 in
theorem wi_X3_hasMore : (Jvm.Cond.instanceMethod ({ cls := "ReportBlocks$Reader", name := "hasMore", desc := "()Z" } : Jvm.MethodName)) ∈ GB := gb_t (List.mem_of_getElem? (i := 355) rfl) rfl
set_option maxRecDepth 100000 in
theorem wv_X3_hasMore : (Jvm.Cond.selects "ReportBlocks$Reader" ({ cls := "ReportBlocks$Reader", name := "hasMore", desc := "()Z" } : Jvm.MethodName) ({ cls := "ReportBlocks$Reader", name := "hasMore", desc := "()Z" } : Jvm.MethodName)) ∈ GB := gb_t (List.mem_of_getElem? (i := 356) rfl) rfl
set_option maxRecDepth 100000 in
theorem wc_X3_hasMore : Cond.code yX3_hasMore cX3_hasMore 1 (Option.some Jvm.ClassFile.FieldType.boolean) ∈ GB := gb_t (List.mem_of_getElem? (i := 357) rfl) rfl
set_option maxRecDepth 100000 in
theorem wl_X7_284 : (Jvm.Cond.methodLink "ReportBlocks" (284 : Nat) ({ cls := "ReportBlocks$Reader", name := "passRecord", desc := "(LReportBlocks$Block;)V" } : Jvm.MethodName)) ∈ GB := gb_t (List.mem_of_getElem? (i := 358) rfl) rfl
set_option maxRecDepth 100000 in
theorem wi_X3_passRecord : (Jvm.Cond.instanceMethod ({ cls := "ReportBlocks$Reader", name := "passRecord", desc := "(LReportBlocks$Block;)V" } : Jvm.MethodName)) ∈ GB := gb_t (List.mem_of_getElem? (i := 359) rfl) rfl
set_option maxRecDepth 100000 in
theorem wv_X3_passRecord : (Jvm.Cond.selects "ReportBlocks$Reader" ({ cls := "ReportBlocks$Reader", name := "passRecord", desc := "(LReportBlocks$Block;)V" } : Jvm.MethodName) ({ cls := "ReportBlocks$Reader", name := "passRecord", desc := "(LReportBlocks$Block;)V" } : Jvm.MethodName)) ∈ GB := gb_t (List.mem_of_getElem? (i := 360) rfl) rfl
set_option maxRecDepth 100000 in
theorem wc_X3_passRecord : Cond.code yX3_passRecord cX3_passRecord 7 (Option.none : Option Jvm.ClassFile.FieldType) ∈ GB := gb_t (List.mem_of_getElem? (i := 361) rfl) rfl
set_option maxRecDepth 100000 in
theorem wl_X3_31 : (Jvm.Cond.methodLink "ReportBlocks$Reader" (31 : Nat) ({ cls := "ReportBlocks$Reader", name := "passBits", desc := "(I)I" } : Jvm.MethodName)) ∈ GB := gb_t (List.mem_of_getElem? (i := 362) rfl) rfl
set_option maxRecDepth 100000 in
theorem wi_X3_passBits : (Jvm.Cond.instanceMethod ({ cls := "ReportBlocks$Reader", name := "passBits", desc := "(I)I" } : Jvm.MethodName)) ∈ GB := gb_t (List.mem_of_getElem? (i := 364) rfl) rfl
set_option maxRecDepth 100000 in
theorem wc_X3_passBits : Cond.code yX3_passBits cX3_passBits 5 (Option.some Jvm.ClassFile.FieldType.int) ∈ GB := gb_t (List.mem_of_getElem? (i := 365) rfl) rfl
set_option maxRecDepth 100000 in
theorem wl_X3_56 : (Jvm.Cond.methodLink "ReportBlocks$Reader" (56 : Nat) ({ cls := "ReportBlocks$Reader", name := "fail", desc := "(II)V" } : Jvm.MethodName)) ∈ GB := gb_t (List.mem_of_getElem? (i := 366) rfl) rfl
set_option maxRecDepth 100000 in
theorem wl_X3_35 : (Jvm.Cond.methodLink "ReportBlocks$Reader" (35 : Nat) ({ cls := "ReportBlocks$Reader", name := "lookForPlaces", desc := "(II)V" } : Jvm.MethodName)) ∈ GB := gb_t (List.mem_of_getElem? (i := 367) rfl) rfl
set_option maxRecDepth 100000 in
theorem wi_X3_lookForPlaces : (Jvm.Cond.instanceMethod ({ cls := "ReportBlocks$Reader", name := "lookForPlaces", desc := "(II)V" } : Jvm.MethodName)) ∈ GB := gb_t (List.mem_of_getElem? (i := 369) rfl) rfl
set_option maxRecDepth 100000 in
theorem wc_X3_lookForPlaces : Cond.code yX3_lookForPlaces cX3_lookForPlaces 4 (Option.none : Option Jvm.ClassFile.FieldType) ∈ GB := gb_t (List.mem_of_getElem? (i := 370) rfl) rfl
set_option maxRecDepth 100000 in
theorem wz_X3_44 : (Jvm.Cond.methodLinkNest "ReportBlocks$Reader" (44 : Nat) ({ cls := "ReportBlocks", name := "isOne", desc := "([III)Z" } : Jvm.MethodName) "ReportBlocks") ∈ lw_tbl := List.mem_append_right _ (List.mem_of_getElem? (i := 371) rfl)
def nw_X3_44 : Cond := (Jvm.Cond.methodLinkNest "ReportBlocks$Reader" (44 : Nat) ({ cls := "ReportBlocks", name := "isOne", desc := "([III)Z" } : Jvm.MethodName) "ReportBlocks")
set_option maxRecDepth 100000 in
theorem wt_X7_isOne : (Jvm.Cond.static ({ cls := "ReportBlocks", name := "isOne", desc := "([III)Z" } : Jvm.MethodName)) ∈ GB := gb_t (List.mem_of_getElem? (i := 372) rfl) rfl
set_option maxRecDepth 100000 in
theorem wc_X7_isOne : Cond.code yX7_isOne cX7_isOne 4 (Option.some Jvm.ClassFile.FieldType.boolean) ∈ GB := gb_t (List.mem_of_getElem? (i := 373) rfl) rfl
set_option maxRecDepth 100000 in
theorem wl_X3_39 : (Jvm.Cond.methodLink "ReportBlocks$Reader" (39 : Nat) ({ cls := "ReportBlocks$Block", name := "startRecord", desc := "(I)I" } : Jvm.MethodName)) ∈ GB := gb_t (List.mem_of_getElem? (i := 374) rfl) rfl
set_option maxRecDepth 100000 in
theorem wi_X0_startRecord : (Jvm.Cond.instanceMethod ({ cls := "ReportBlocks$Block", name := "startRecord", desc := "(I)I" } : Jvm.MethodName)) ∈ GB := gb_t (List.mem_of_getElem? (i := 375) rfl) rfl
set_option maxRecDepth 100000 in
theorem wv_X0_startRecord : (Jvm.Cond.selects "ReportBlocks$Block" ({ cls := "ReportBlocks$Block", name := "startRecord", desc := "(I)I" } : Jvm.MethodName) ({ cls := "ReportBlocks$Block", name := "startRecord", desc := "(I)I" } : Jvm.MethodName)) ∈ GB := gb_t (List.mem_of_getElem? (i := 376) rfl) rfl
set_option maxRecDepth 100000 in
theorem wc_X0_startRecord : Cond.code yX0_startRecord cX0_startRecord 2 (Option.some Jvm.ClassFile.FieldType.int) ∈ GB := gb_t (List.mem_of_getElem? (i := 377) rfl) rfl
set_option maxRecDepth 100000 in
theorem wl_X3_48 : (Jvm.Cond.methodLink "ReportBlocks$Reader" (48 : Nat) ({ cls := "ReportBlocks$Reader", name := "passItem", desc := "(I)V" } : Jvm.MethodName)) ∈ GB := gb_t (List.mem_of_getElem? (i := 378) rfl) rfl
set_option maxRecDepth 100000 in
theorem wi_X3_passItem : (Jvm.Cond.instanceMethod ({ cls := "ReportBlocks$Reader", name := "passItem", desc := "(I)V" } : Jvm.MethodName)) ∈ GB := gb_t (List.mem_of_getElem? (i := 379) rfl) rfl
set_option maxRecDepth 100000 in
theorem wv_X3_passItem : (Jvm.Cond.selects "ReportBlocks$Reader" ({ cls := "ReportBlocks$Reader", name := "passItem", desc := "(I)V" } : Jvm.MethodName) ({ cls := "ReportBlocks$Reader", name := "passItem", desc := "(I)V" } : Jvm.MethodName)) ∈ GB := gb_t (List.mem_of_getElem? (i := 380) rfl) rfl
set_option maxRecDepth 100000 in
theorem wc_X3_passItem : Cond.code yX3_passItem cX3_passItem 2 (Option.none : Option Jvm.ClassFile.FieldType) ∈ GB := gb_t (List.mem_of_getElem? (i := 381) rfl) rfl
set_option maxRecDepth 100000 in
theorem wl_X3_71 : (Jvm.Cond.methodLink "ReportBlocks$Reader" (71 : Nat) ({ cls := "ReportBlocks$Reader", name := "pass", desc := "(I)V" } : Jvm.MethodName)) ∈ GB := gb_t (List.mem_of_getElem? (i := 382) rfl) rfl
set_option maxRecDepth 100000 in
theorem wi_X3_pass : (Jvm.Cond.instanceMethod ({ cls := "ReportBlocks$Reader", name := "pass", desc := "(I)V" } : Jvm.MethodName)) ∈ GB := gb_t (List.mem_of_getElem? (i := 384) rfl) rfl
set_option maxRecDepth 100000 in
theorem wc_X3_pass : Cond.code yX3_pass cX3_pass 2 (Option.none : Option Jvm.ClassFile.FieldType) ∈ GB := gb_t (List.mem_of_getElem? (i := 385) rfl) rfl
set_option maxRecDepth 100000 in
theorem wl_X3_74 : (Jvm.Cond.methodLink "ReportBlocks$Reader" (74 : Nat) ({ cls := "ReportBlocks$Reader", name := "passGoing", desc := "()V" } : Jvm.MethodName)) ∈ GB := gb_t (List.mem_of_getElem? (i := 386) rfl) rfl
set_option maxRecDepth 100000 in
theorem wi_X3_passGoing : (Jvm.Cond.instanceMethod ({ cls := "ReportBlocks$Reader", name := "passGoing", desc := "()V" } : Jvm.MethodName)) ∈ GB := gb_t (List.mem_of_getElem? (i := 388) rfl) rfl
set_option maxRecDepth 100000 in
theorem wc_X3_passGoing : Cond.code yX3_passGoing cX3_passGoing 3 (Option.none : Option Jvm.ClassFile.FieldType) ∈ GB := gb_t (List.mem_of_getElem? (i := 389) rfl) rfl
set_option maxRecDepth 100000 in
theorem wl_X3_77 : (Jvm.Cond.methodLink "ReportBlocks$Reader" (77 : Nat) ({ cls := "ReportBlocks$Reader", name := "passAgain", desc := "(I)V" } : Jvm.MethodName)) ∈ GB := gb_t (List.mem_of_getElem? (i := 390) rfl) rfl
set_option maxRecDepth 100000 in
theorem wi_X3_passAgain : (Jvm.Cond.instanceMethod ({ cls := "ReportBlocks$Reader", name := "passAgain", desc := "(I)V" } : Jvm.MethodName)) ∈ GB := gb_t (List.mem_of_getElem? (i := 392) rfl) rfl
set_option maxRecDepth 100000 in
theorem wc_X3_passAgain : Cond.code yX3_passAgain cX3_passAgain 3 (Option.none : Option Jvm.ClassFile.FieldType) ∈ GB := gb_t (List.mem_of_getElem? (i := 393) rfl) rfl
set_option maxRecDepth 100000 in
theorem wl_X3_80 : (Jvm.Cond.methodLink "ReportBlocks$Reader" (80 : Nat) ({ cls := "ReportBlocks$Reader", name := "passMade", desc := "(I)V" } : Jvm.MethodName)) ∈ GB := gb_t (List.mem_of_getElem? (i := 394) rfl) rfl
set_option maxRecDepth 100000 in
theorem wi_X3_passMade : (Jvm.Cond.instanceMethod ({ cls := "ReportBlocks$Reader", name := "passMade", desc := "(I)V" } : Jvm.MethodName)) ∈ GB := gb_t (List.mem_of_getElem? (i := 396) rfl) rfl
set_option maxRecDepth 100000 in
theorem wc_X3_passMade : Cond.code yX3_passMade cX3_passMade 5 (Option.none : Option Jvm.ClassFile.FieldType) ∈ GB := gb_t (List.mem_of_getElem? (i := 397) rfl) rfl
set_option maxRecDepth 100000 in
theorem wl_X3_83 : (Jvm.Cond.methodLink "ReportBlocks$Reader" (83 : Nat) ({ cls := "ReportBlocks$Category", name := "partBytes", desc := "(II)I" } : Jvm.MethodName)) ∈ GB := gb_t (List.mem_of_getElem? (i := 398) rfl) rfl
set_option maxRecDepth 100000 in
theorem wl_X3_52 : (Jvm.Cond.methodLink "ReportBlocks$Reader" (52 : Nat) ({ cls := "ReportBlocks$Block", name := "putItem", desc := "(IIII)V" } : Jvm.MethodName)) ∈ GB := gb_t (List.mem_of_getElem? (i := 399) rfl) rfl
set_option maxRecDepth 100000 in
theorem wi_X0_putItem : (Jvm.Cond.instanceMethod ({ cls := "ReportBlocks$Block", name := "putItem", desc := "(IIII)V" } : Jvm.MethodName)) ∈ GB := gb_t (List.mem_of_getElem? (i := 400) rfl) rfl
set_option maxRecDepth 100000 in
theorem wv_X0_putItem : (Jvm.Cond.selects "ReportBlocks$Block" ({ cls := "ReportBlocks$Block", name := "putItem", desc := "(IIII)V" } : Jvm.MethodName) ({ cls := "ReportBlocks$Block", name := "putItem", desc := "(IIII)V" } : Jvm.MethodName)) ∈ GB := gb_t (List.mem_of_getElem? (i := 401) rfl) rfl
set_option maxRecDepth 100000 in
theorem wc_X0_putItem : Cond.code yX0_putItem cX0_putItem 5 (Option.none : Option Jvm.ClassFile.FieldType) ∈ GB := gb_t (List.mem_of_getElem? (i := 402) rfl) rfl
set_option maxRecDepth 100000 in
theorem wl_X0_46 : (Jvm.Cond.methodLink "ReportBlocks$Block" (46 : Nat) ({ cls := "ReportBlocks$Block", name := "slot", desc := "(II)I" } : Jvm.MethodName)) ∈ GB := gb_t (List.mem_of_getElem? (i := 403) rfl) rfl
set_option maxRecDepth 100000 in
theorem wt_X0_slot : (Jvm.Cond.static ({ cls := "ReportBlocks$Block", name := "slot", desc := "(II)I" } : Jvm.MethodName)) ∈ GB := gb_t (List.mem_of_getElem? (i := 404) rfl) rfl
set_option maxRecDepth 100000 in
theorem wc_X0_slot : Cond.code yX0_slot cX0_slot 2 (Option.some Jvm.ClassFile.FieldType.int) ∈ GB := gb_t (List.mem_of_getElem? (i := 405) rfl) rfl
set_option maxRecDepth 100000 in
theorem wl_X7_288 : (Jvm.Cond.methodLink "ReportBlocks" (288 : Nat) ({ cls := "ReportBlocks$Reader", name := "refuseRecord", desc := "()V" } : Jvm.MethodName)) ∈ GB := gb_t (List.mem_of_getElem? (i := 406) rfl) rfl
set_option maxRecDepth 100000 in
theorem wi_X3_refuseRecord : (Jvm.Cond.instanceMethod ({ cls := "ReportBlocks$Reader", name := "refuseRecord", desc := "()V" } : Jvm.MethodName)) ∈ GB := gb_t (List.mem_of_getElem? (i := 407) rfl) rfl
set_option maxRecDepth 100000 in
theorem wv_X3_refuseRecord : (Jvm.Cond.selects "ReportBlocks$Reader" ({ cls := "ReportBlocks$Reader", name := "refuseRecord", desc := "()V" } : Jvm.MethodName) ({ cls := "ReportBlocks$Reader", name := "refuseRecord", desc := "()V" } : Jvm.MethodName)) ∈ GB := gb_t (List.mem_of_getElem? (i := 408) rfl) rfl
set_option maxRecDepth 100000 in
theorem wc_X3_refuseRecord : Cond.code yX3_refuseRecord cX3_refuseRecord 2 (Option.none : Option Jvm.ClassFile.FieldType) ∈ GB := gb_t (List.mem_of_getElem? (i := 409) rfl) rfl
set_option maxRecDepth 100000 in
theorem wl_X7_141 : (Jvm.Cond.methodLink "ReportBlocks" (141 : Nat) ({ cls := "ReportBlocks$Block", name := "keepBytes", desc := "([II)V" } : Jvm.MethodName)) ∈ GB := gb_t (List.mem_of_getElem? (i := 410) rfl) rfl
set_option maxRecDepth 100000 in
theorem wi_X0_keepBytes : (Jvm.Cond.instanceMethod ({ cls := "ReportBlocks$Block", name := "keepBytes", desc := "([II)V" } : Jvm.MethodName)) ∈ GB := gb_t (List.mem_of_getElem? (i := 411) rfl) rfl
set_option maxRecDepth 100000 in
theorem wv_X0_keepBytes : (Jvm.Cond.selects "ReportBlocks$Block" ({ cls := "ReportBlocks$Block", name := "keepBytes", desc := "([II)V" } : Jvm.MethodName) ({ cls := "ReportBlocks$Block", name := "keepBytes", desc := "([II)V" } : Jvm.MethodName)) ∈ GB := gb_t (List.mem_of_getElem? (i := 412) rfl) rfl
set_option maxRecDepth 100000 in
theorem wc_X0_keepBytes : Cond.code yX0_keepBytes cX0_keepBytes 3 (Option.none : Option Jvm.ClassFile.FieldType) ∈ GB := gb_t (List.mem_of_getElem? (i := 413) rfl) rfl
set_option maxRecDepth 100000 in
theorem wl_X0_37 : (Jvm.Cond.methodLink "ReportBlocks$Block" (37 : Nat) ({ cls := "java/lang/System", name := "arraycopy", desc := "(Ljava/lang/Object;ILjava/lang/Object;II)V" } : Jvm.MethodName)) ∈ GB := gb_t (List.mem_of_getElem? (i := 414) rfl) rfl
set_option maxRecDepth 100000 in
theorem wt_arraycopy : (Jvm.Cond.static ({ cls := "java/lang/System", name := "arraycopy", desc := "(Ljava/lang/Object;ILjava/lang/Object;II)V" } : Jvm.MethodName)) ∈ GB := gb_t (List.mem_of_getElem? (i := 415) rfl) rfl
set_option maxRecDepth 100000 in
theorem wa_arraycopy : (Jvm.Cond.native ({ cls := "java/lang/System", name := "arraycopy", desc := "(Ljava/lang/Object;ILjava/lang/Object;II)V" } : Jvm.MethodName)) ∈ GB := gb_t (List.mem_of_getElem? (i := 416) rfl) rfl
set_option maxRecDepth 100000 in
theorem wl_X7_145 : (Jvm.Cond.methodLink "ReportBlocks" (145 : Nat) ({ cls := "ReportBlocks$Tape", name := "dropFirst", desc := "(I)V" } : Jvm.MethodName)) ∈ GB := gb_t (List.mem_of_getElem? (i := 417) rfl) rfl
set_option maxRecDepth 100000 in
theorem wi_X4_dropFirst : (Jvm.Cond.instanceMethod ({ cls := "ReportBlocks$Tape", name := "dropFirst", desc := "(I)V" } : Jvm.MethodName)) ∈ GB := gb_t (List.mem_of_getElem? (i := 418) rfl) rfl
set_option maxRecDepth 100000 in
theorem wv_X4_dropFirst : (Jvm.Cond.selects "ReportBlocks$Tape" ({ cls := "ReportBlocks$Tape", name := "dropFirst", desc := "(I)V" } : Jvm.MethodName) ({ cls := "ReportBlocks$Tape", name := "dropFirst", desc := "(I)V" } : Jvm.MethodName)) ∈ GB := gb_t (List.mem_of_getElem? (i := 419) rfl) rfl
set_option maxRecDepth 100000 in
theorem wc_X4_dropFirst : Cond.code yX4_dropFirst cX4_dropFirst 3 (Option.none : Option Jvm.ClassFile.FieldType) ∈ GB := gb_t (List.mem_of_getElem? (i := 420) rfl) rfl
set_option maxRecDepth 100000 in
theorem wl_L_52 : (Jvm.Cond.methodLink "ReportBlocksLaw" (52 : Nat) ({ cls := "ReportBlocks", name := "fault", desc := "()I" } : Jvm.MethodName)) ∈ GB := gb_t (List.mem_of_getElem? (i := 421) rfl) rfl
set_option maxRecDepth 100000 in
theorem wi_X7_fault : (Jvm.Cond.instanceMethod ({ cls := "ReportBlocks", name := "fault", desc := "()I" } : Jvm.MethodName)) ∈ GB := gb_t (List.mem_of_getElem? (i := 422) rfl) rfl
set_option maxRecDepth 100000 in
theorem wv_X7_fault : (Jvm.Cond.selects "ReportBlocks" ({ cls := "ReportBlocks", name := "fault", desc := "()I" } : Jvm.MethodName) ({ cls := "ReportBlocks", name := "fault", desc := "()I" } : Jvm.MethodName)) ∈ GB := gb_t (List.mem_of_getElem? (i := 423) rfl) rfl
set_option maxRecDepth 100000 in
theorem wc_X7_fault : Cond.code yX7_fault cX7_fault 1 (Option.some Jvm.ClassFile.FieldType.int) ∈ GB := gb_t (List.mem_of_getElem? (i := 424) rfl) rfl
set_option maxRecDepth 100000 in
theorem wl_L_56 : (Jvm.Cond.methodLink "ReportBlocksLaw" (56 : Nat) ({ cls := "ReportBlocks", name := "records", desc := "(I)I" } : Jvm.MethodName)) ∈ GB := gb_t (List.mem_of_getElem? (i := 425) rfl) rfl
set_option maxRecDepth 100000 in
theorem wi_X7_records : (Jvm.Cond.instanceMethod ({ cls := "ReportBlocks", name := "records", desc := "(I)I" } : Jvm.MethodName)) ∈ GB := gb_t (List.mem_of_getElem? (i := 426) rfl) rfl
set_option maxRecDepth 100000 in
theorem wv_X7_records : (Jvm.Cond.selects "ReportBlocks" ({ cls := "ReportBlocks", name := "records", desc := "(I)I" } : Jvm.MethodName) ({ cls := "ReportBlocks", name := "records", desc := "(I)I" } : Jvm.MethodName)) ∈ GB := gb_t (List.mem_of_getElem? (i := 427) rfl) rfl
set_option maxRecDepth 100000 in
theorem wc_X7_records : Cond.code yX7_records cX7_records 2 (Option.some Jvm.ClassFile.FieldType.int) ∈ GB := gb_t (List.mem_of_getElem? (i := 428) rfl) rfl
set_option maxRecDepth 100000 in
theorem wl_L_60 : (Jvm.Cond.methodLink "ReportBlocksLaw" (60 : Nat) ({ cls := "ReportBlocks", name := "has", desc := "(III)I" } : Jvm.MethodName)) ∈ GB := gb_t (List.mem_of_getElem? (i := 429) rfl) rfl
set_option maxRecDepth 100000 in
theorem wi_X7_has : (Jvm.Cond.instanceMethod ({ cls := "ReportBlocks", name := "has", desc := "(III)I" } : Jvm.MethodName)) ∈ GB := gb_t (List.mem_of_getElem? (i := 430) rfl) rfl
set_option maxRecDepth 100000 in
theorem wv_X7_has : (Jvm.Cond.selects "ReportBlocks" ({ cls := "ReportBlocks", name := "has", desc := "(III)I" } : Jvm.MethodName) ({ cls := "ReportBlocks", name := "has", desc := "(III)I" } : Jvm.MethodName)) ∈ GB := gb_t (List.mem_of_getElem? (i := 431) rfl) rfl
set_option maxRecDepth 100000 in
theorem wc_X7_has : Cond.code yX7_has cX7_has 4 (Option.some Jvm.ClassFile.FieldType.int) ∈ GB := gb_t (List.mem_of_getElem? (i := 432) rfl) rfl
set_option maxRecDepth 100000 in
theorem wl_X7_157 : (Jvm.Cond.methodLink "ReportBlocks" (157 : Nat) ({ cls := "ReportBlocks", name := "isRecord", desc := "(I)Z" } : Jvm.MethodName)) ∈ GB := gb_t (List.mem_of_getElem? (i := 433) rfl) rfl
set_option maxRecDepth 100000 in
theorem wi_X7_isRecord : (Jvm.Cond.instanceMethod ({ cls := "ReportBlocks", name := "isRecord", desc := "(I)Z" } : Jvm.MethodName)) ∈ GB := gb_t (List.mem_of_getElem? (i := 435) rfl) rfl
set_option maxRecDepth 100000 in
theorem wc_X7_isRecord : Cond.code yX7_isRecord cX7_isRecord 2 (Option.some Jvm.ClassFile.FieldType.boolean) ∈ GB := gb_t (List.mem_of_getElem? (i := 436) rfl) rfl
set_option maxRecDepth 100000 in
theorem wl_X7_160 : (Jvm.Cond.methodLink "ReportBlocks" (160 : Nat) ({ cls := "ReportBlocks$Block", name := "sizeOf", desc := "(II)I" } : Jvm.MethodName)) ∈ GB := gb_t (List.mem_of_getElem? (i := 437) rfl) rfl
set_option maxRecDepth 100000 in
theorem wi_X0_sizeOf : (Jvm.Cond.instanceMethod ({ cls := "ReportBlocks$Block", name := "sizeOf", desc := "(II)I" } : Jvm.MethodName)) ∈ GB := gb_t (List.mem_of_getElem? (i := 438) rfl) rfl
set_option maxRecDepth 100000 in
theorem wv_X0_sizeOf : (Jvm.Cond.selects "ReportBlocks$Block" ({ cls := "ReportBlocks$Block", name := "sizeOf", desc := "(II)I" } : Jvm.MethodName) ({ cls := "ReportBlocks$Block", name := "sizeOf", desc := "(II)I" } : Jvm.MethodName)) ∈ GB := gb_t (List.mem_of_getElem? (i := 439) rfl) rfl
set_option maxRecDepth 100000 in
theorem wc_X0_sizeOf : Cond.code yX0_sizeOf cX0_sizeOf 3 (Option.some Jvm.ClassFile.FieldType.int) ∈ GB := gb_t (List.mem_of_getElem? (i := 440) rfl) rfl
set_option maxRecDepth 100000 in
theorem wl_X7_163 : (Jvm.Cond.methodLink "ReportBlocks" (163 : Nat) ({ cls := "ReportBlocks$Block", name := "beginOf", desc := "(II)I" } : Jvm.MethodName)) ∈ GB := gb_t (List.mem_of_getElem? (i := 441) rfl) rfl
set_option maxRecDepth 100000 in
theorem wi_X0_beginOf : (Jvm.Cond.instanceMethod ({ cls := "ReportBlocks$Block", name := "beginOf", desc := "(II)I" } : Jvm.MethodName)) ∈ GB := gb_t (List.mem_of_getElem? (i := 442) rfl) rfl
set_option maxRecDepth 100000 in
theorem wv_X0_beginOf : (Jvm.Cond.selects "ReportBlocks$Block" ({ cls := "ReportBlocks$Block", name := "beginOf", desc := "(II)I" } : Jvm.MethodName) ({ cls := "ReportBlocks$Block", name := "beginOf", desc := "(II)I" } : Jvm.MethodName)) ∈ GB := gb_t (List.mem_of_getElem? (i := 443) rfl) rfl
set_option maxRecDepth 100000 in
theorem wc_X0_beginOf : Cond.code yX0_beginOf cX0_beginOf 3 (Option.some Jvm.ClassFile.FieldType.int) ∈ GB := gb_t (List.mem_of_getElem? (i := 444) rfl) rfl
set_option maxRecDepth 100000 in
theorem wl_X0_50 : (Jvm.Cond.methodLink "ReportBlocks$Block" (50 : Nat) ({ cls := "ReportBlocks$Block", name := "sizeOf", desc := "(II)I" } : Jvm.MethodName)) ∈ GB := gb_t (List.mem_of_getElem? (i := 445) rfl) rfl
set_option maxRecDepth 100000 in
theorem wl_L_64 : (Jvm.Cond.methodLink "ReportBlocksLaw" (64 : Nat) ({ cls := "ReportBlocks", name := "at", desc := "(III)I" } : Jvm.MethodName)) ∈ GB := gb_t (List.mem_of_getElem? (i := 446) rfl) rfl
set_option maxRecDepth 100000 in
theorem wi_X7_at : (Jvm.Cond.instanceMethod ({ cls := "ReportBlocks", name := "at", desc := "(III)I" } : Jvm.MethodName)) ∈ GB := gb_t (List.mem_of_getElem? (i := 447) rfl) rfl
set_option maxRecDepth 100000 in
theorem wv_X7_at : (Jvm.Cond.selects "ReportBlocks" ({ cls := "ReportBlocks", name := "at", desc := "(III)I" } : Jvm.MethodName) ({ cls := "ReportBlocks", name := "at", desc := "(III)I" } : Jvm.MethodName)) ∈ GB := gb_t (List.mem_of_getElem? (i := 448) rfl) rfl
set_option maxRecDepth 100000 in
theorem wc_X7_at : Cond.code yX7_at cX7_at 4 (Option.some Jvm.ClassFile.FieldType.int) ∈ GB := gb_t (List.mem_of_getElem? (i := 449) rfl) rfl
set_option maxRecDepth 100000 in
theorem wl_L_68 : (Jvm.Cond.methodLink "ReportBlocksLaw" (68 : Nat) ({ cls := "ReportBlocks", name := "number", desc := "(III)J" } : Jvm.MethodName)) ∈ GB := gb_t (List.mem_of_getElem? (i := 450) rfl) rfl
set_option maxRecDepth 100000 in
theorem wi_X7_number : (Jvm.Cond.instanceMethod ({ cls := "ReportBlocks", name := "number", desc := "(III)J" } : Jvm.MethodName)) ∈ GB := gb_t (List.mem_of_getElem? (i := 451) rfl) rfl
set_option maxRecDepth 100000 in
theorem wv_X7_number : (Jvm.Cond.selects "ReportBlocks" ({ cls := "ReportBlocks", name := "number", desc := "(III)J" } : Jvm.MethodName) ({ cls := "ReportBlocks", name := "number", desc := "(III)J" } : Jvm.MethodName)) ∈ GB := gb_t (List.mem_of_getElem? (i := 452) rfl) rfl
set_option maxRecDepth 100000 in
theorem wc_X7_number : Cond.code yX7_number cX7_number 8 (Option.some Jvm.ClassFile.FieldType.long) ∈ GB := gb_t (List.mem_of_getElem? (i := 453) rfl) rfl
set_option maxRecDepth 100000 in
theorem wo_X7_167 : (Jvm.Cond.constantLong "ReportBlocks" (167 : Nat) (-1 : Int64)) ∈ GB := gb_t (List.mem_of_getElem? (i := 454) rfl) rfl
set_option maxRecDepth 100000 in
theorem wo_X7_169 : (Jvm.Cond.constantLong "ReportBlocks" (169 : Nat) (-9 : Int64)) ∈ GB := gb_t (List.mem_of_getElem? (i := 455) rfl) rfl
set_option maxRecDepth 100000 in
theorem wl_X7_171 : (Jvm.Cond.methodLink "ReportBlocks" (171 : Nat) ({ cls := "ReportBlocks$Block", name := "joined", desc := "(II)J" } : Jvm.MethodName)) ∈ GB := gb_t (List.mem_of_getElem? (i := 456) rfl) rfl
set_option maxRecDepth 100000 in
theorem wi_X0_joined : (Jvm.Cond.instanceMethod ({ cls := "ReportBlocks$Block", name := "joined", desc := "(II)J" } : Jvm.MethodName)) ∈ GB := gb_t (List.mem_of_getElem? (i := 457) rfl) rfl
set_option maxRecDepth 100000 in
theorem wv_X0_joined : (Jvm.Cond.selects "ReportBlocks$Block" ({ cls := "ReportBlocks$Block", name := "joined", desc := "(II)J" } : Jvm.MethodName) ({ cls := "ReportBlocks$Block", name := "joined", desc := "(II)J" } : Jvm.MethodName)) ∈ GB := gb_t (List.mem_of_getElem? (i := 458) rfl) rfl
set_option maxRecDepth 100000 in
theorem wc_X0_joined : Cond.code yX0_joined cX0_joined 6 (Option.some Jvm.ClassFile.FieldType.long) ∈ GB := gb_t (List.mem_of_getElem? (i := 459) rfl) rfl
set_option maxRecDepth 100000 in
theorem wl_X7_175 : (Jvm.Cond.methodLink "ReportBlocks" (175 : Nat) ({ cls := "ReportBlocks", name := "partNumber", desc := "(LReportBlocks$Category;III)J" } : Jvm.MethodName)) ∈ GB := gb_t (List.mem_of_getElem? (i := 460) rfl) rfl
set_option maxRecDepth 100000 in
theorem wi_X7_partNumber : (Jvm.Cond.instanceMethod ({ cls := "ReportBlocks", name := "partNumber", desc := "(LReportBlocks$Category;III)J" } : Jvm.MethodName)) ∈ GB := gb_t (List.mem_of_getElem? (i := 462) rfl) rfl
set_option maxRecDepth 100000 in
theorem wc_X7_partNumber : Cond.code yX7_partNumber cX7_partNumber 8 (Option.some Jvm.ClassFile.FieldType.long) ∈ GB := gb_t (List.mem_of_getElem? (i := 463) rfl) rfl
set_option maxRecDepth 100000 in
theorem wl_X7_291 : (Jvm.Cond.methodLink "ReportBlocks" (291 : Nat) ({ cls := "ReportBlocks", name := "isOne", desc := "([III)Z" } : Jvm.MethodName)) ∈ GB := gb_t (List.mem_of_getElem? (i := 464) rfl) rfl
set_option maxRecDepth 100000 in
theorem wl_L_73 : (Jvm.Cond.methodLink "ReportBlocksLaw" (73 : Nat) ({ cls := "ReportBlocks", name := "begin", desc := "(I)I" } : Jvm.MethodName)) ∈ GB := gb_t (List.mem_of_getElem? (i := 465) rfl) rfl
set_option maxRecDepth 100000 in
theorem wi_X7_begin : (Jvm.Cond.instanceMethod ({ cls := "ReportBlocks", name := "begin", desc := "(I)I" } : Jvm.MethodName)) ∈ GB := gb_t (List.mem_of_getElem? (i := 466) rfl) rfl
set_option maxRecDepth 100000 in
theorem wv_X7_begin : (Jvm.Cond.selects "ReportBlocks" ({ cls := "ReportBlocks", name := "begin", desc := "(I)I" } : Jvm.MethodName) ({ cls := "ReportBlocks", name := "begin", desc := "(I)I" } : Jvm.MethodName)) ∈ GB := gb_t (List.mem_of_getElem? (i := 467) rfl) rfl
set_option maxRecDepth 100000 in
theorem wc_X7_begin : Cond.code yX7_begin cX7_begin 2 (Option.some Jvm.ClassFile.FieldType.int) ∈ GB := gb_t (List.mem_of_getElem? (i := 468) rfl) rfl
set_option maxRecDepth 100000 in
theorem wl_X7_179 : (Jvm.Cond.methodLink "ReportBlocks" (179 : Nat) ({ cls := "ReportBlocks$OwnRecord", name := "startFor", desc := "(I)V" } : Jvm.MethodName)) ∈ GB := gb_t (List.mem_of_getElem? (i := 469) rfl) rfl
set_option maxRecDepth 100000 in
theorem wi_X2_startFor : (Jvm.Cond.instanceMethod ({ cls := "ReportBlocks$OwnRecord", name := "startFor", desc := "(I)V" } : Jvm.MethodName)) ∈ GB := gb_t (List.mem_of_getElem? (i := 470) rfl) rfl
set_option maxRecDepth 100000 in
theorem wv_X2_startFor : (Jvm.Cond.selects "ReportBlocks$OwnRecord" ({ cls := "ReportBlocks$OwnRecord", name := "startFor", desc := "(I)V" } : Jvm.MethodName) ({ cls := "ReportBlocks$OwnRecord", name := "startFor", desc := "(I)V" } : Jvm.MethodName)) ∈ GB := gb_t (List.mem_of_getElem? (i := 471) rfl) rfl
set_option maxRecDepth 100000 in
theorem wc_X2_startFor : Cond.code yX2_startFor cX2_startFor 2 (Option.none : Option Jvm.ClassFile.FieldType) ∈ GB := gb_t (List.mem_of_getElem? (i := 472) rfl) rfl
set_option maxRecDepth 100000 in
theorem wl_X2_22 : (Jvm.Cond.methodLink "ReportBlocks$OwnRecord" (22 : Nat) ({ cls := "java/util/Arrays", name := "fill", desc := "([II)V" } : Jvm.MethodName)) ∈ GB := gb_t (List.mem_of_getElem? (i := 473) rfl) rfl
set_option maxRecDepth 100000 in
theorem wl_L_77 : (Jvm.Cond.methodLink "ReportBlocksLaw" (77 : Nat) ({ cls := "ReportBlocks", name := "set", desc := "(I)I" } : Jvm.MethodName)) ∈ GB := gb_t (List.mem_of_getElem? (i := 474) rfl) rfl
set_option maxRecDepth 100000 in
theorem wi_X7_set : (Jvm.Cond.instanceMethod ({ cls := "ReportBlocks", name := "set", desc := "(I)I" } : Jvm.MethodName)) ∈ GB := gb_t (List.mem_of_getElem? (i := 475) rfl) rfl
set_option maxRecDepth 100000 in
theorem wv_X7_set : (Jvm.Cond.selects "ReportBlocks" ({ cls := "ReportBlocks", name := "set", desc := "(I)I" } : Jvm.MethodName) ({ cls := "ReportBlocks", name := "set", desc := "(I)I" } : Jvm.MethodName)) ∈ GB := gb_t (List.mem_of_getElem? (i := 476) rfl) rfl
set_option maxRecDepth 100000 in
theorem wc_X7_set : Cond.code yX7_set cX7_set 4 (Option.some Jvm.ClassFile.FieldType.int) ∈ GB := gb_t (List.mem_of_getElem? (i := 477) rfl) rfl
set_option maxRecDepth 100000 in
theorem wl_X7_187 : (Jvm.Cond.methodLink "ReportBlocks" (187 : Nat) ({ cls := "ReportBlocks$Reader", name := "passItem", desc := "(I)V" } : Jvm.MethodName)) ∈ GB := gb_t (List.mem_of_getElem? (i := 478) rfl) rfl
set_option maxRecDepth 100000 in
theorem wl_X7_193 : (Jvm.Cond.methodLink "ReportBlocks" (193 : Nat) ({ cls := "ReportBlocks$OwnRecord", name := "putItem", desc := "(I[II)V" } : Jvm.MethodName)) ∈ GB := gb_t (List.mem_of_getElem? (i := 479) rfl) rfl
set_option maxRecDepth 100000 in
theorem wi_X2_putItem : (Jvm.Cond.instanceMethod ({ cls := "ReportBlocks$OwnRecord", name := "putItem", desc := "(I[II)V" } : Jvm.MethodName)) ∈ GB := gb_t (List.mem_of_getElem? (i := 480) rfl) rfl
set_option maxRecDepth 100000 in
theorem wv_X2_putItem : (Jvm.Cond.selects "ReportBlocks$OwnRecord" ({ cls := "ReportBlocks$OwnRecord", name := "putItem", desc := "(I[II)V" } : Jvm.MethodName) ({ cls := "ReportBlocks$OwnRecord", name := "putItem", desc := "(I[II)V" } : Jvm.MethodName)) ∈ GB := gb_t (List.mem_of_getElem? (i := 481) rfl) rfl
set_option maxRecDepth 100000 in
theorem wc_X2_putItem : Cond.code yX2_putItem cX2_putItem 4 (Option.none : Option Jvm.ClassFile.FieldType) ∈ GB := gb_t (List.mem_of_getElem? (i := 482) rfl) rfl
set_option maxRecDepth 100000 in
theorem wl_X2_28 : (Jvm.Cond.methodLink "ReportBlocks$OwnRecord" (28 : Nat) ({ cls := "ReportBlocks$OwnRecord", name := "rowOf", desc := "(I)I" } : Jvm.MethodName)) ∈ GB := gb_t (List.mem_of_getElem? (i := 483) rfl) rfl
set_option maxRecDepth 100000 in
theorem wt_X2_rowOf : (Jvm.Cond.static ({ cls := "ReportBlocks$OwnRecord", name := "rowOf", desc := "(I)I" } : Jvm.MethodName)) ∈ GB := gb_t (List.mem_of_getElem? (i := 484) rfl) rfl
set_option maxRecDepth 100000 in
theorem wc_X2_rowOf : Cond.code yX2_rowOf cX2_rowOf 1 (Option.some Jvm.ClassFile.FieldType.int) ∈ GB := gb_t (List.mem_of_getElem? (i := 485) rfl) rfl
set_option maxRecDepth 100000 in
theorem wl_X2_32 : (Jvm.Cond.methodLink "ReportBlocks$OwnRecord" (32 : Nat) ({ cls := "java/lang/System", name := "arraycopy", desc := "(Ljava/lang/Object;ILjava/lang/Object;II)V" } : Jvm.MethodName)) ∈ GB := gb_t (List.mem_of_getElem? (i := 486) rfl) rfl
set_option maxRecDepth 100000 in
theorem wl_L_81 : (Jvm.Cond.methodLink "ReportBlocksLaw" (81 : Nat) ({ cls := "ReportBlocks", name := "take", desc := "(I)I" } : Jvm.MethodName)) ∈ GB := gb_t (List.mem_of_getElem? (i := 487) rfl) rfl
set_option maxRecDepth 100000 in
theorem wi_X7_take : (Jvm.Cond.instanceMethod ({ cls := "ReportBlocks", name := "take", desc := "(I)I" } : Jvm.MethodName)) ∈ GB := gb_t (List.mem_of_getElem? (i := 488) rfl) rfl
set_option maxRecDepth 100000 in
theorem wv_X7_take : (Jvm.Cond.selects "ReportBlocks" ({ cls := "ReportBlocks", name := "take", desc := "(I)I" } : Jvm.MethodName) ({ cls := "ReportBlocks", name := "take", desc := "(I)I" } : Jvm.MethodName)) ∈ GB := gb_t (List.mem_of_getElem? (i := 489) rfl) rfl
set_option maxRecDepth 100000 in
theorem wc_X7_take : Cond.code yX7_take cX7_take 3 (Option.some Jvm.ClassFile.FieldType.int) ∈ GB := gb_t (List.mem_of_getElem? (i := 490) rfl) rfl
set_option maxRecDepth 100000 in
theorem wl_L_85 : (Jvm.Cond.methodLink "ReportBlocksLaw" (85 : Nat) ({ cls := "ReportBlocks", name := "write", desc := "()I" } : Jvm.MethodName)) ∈ GB := gb_t (List.mem_of_getElem? (i := 491) rfl) rfl
set_option maxRecDepth 100000 in
theorem wi_X7_write : (Jvm.Cond.instanceMethod ({ cls := "ReportBlocks", name := "write", desc := "()I" } : Jvm.MethodName)) ∈ GB := gb_t (List.mem_of_getElem? (i := 492) rfl) rfl
set_option maxRecDepth 100000 in
theorem wv_X7_write : (Jvm.Cond.selects "ReportBlocks" ({ cls := "ReportBlocks", name := "write", desc := "()I" } : Jvm.MethodName) ({ cls := "ReportBlocks", name := "write", desc := "()I" } : Jvm.MethodName)) ∈ GB := gb_t (List.mem_of_getElem? (i := 493) rfl) rfl
set_option maxRecDepth 100000 in
theorem wc_X7_write : Cond.code yX7_write cX7_write 6 (Option.some Jvm.ClassFile.FieldType.int) ∈ GB := gb_t (List.mem_of_getElem? (i := 494) rfl) rfl
set_option maxRecDepth 100000 in
theorem wl_X7_197 : (Jvm.Cond.methodLink "ReportBlocks" (197 : Nat) ({ cls := "ReportBlocks$OwnRecord", name := "lastPlace", desc := "()I" } : Jvm.MethodName)) ∈ GB := gb_t (List.mem_of_getElem? (i := 495) rfl) rfl
set_option maxRecDepth 100000 in
theorem wi_X2_lastPlace : (Jvm.Cond.instanceMethod ({ cls := "ReportBlocks$OwnRecord", name := "lastPlace", desc := "()I" } : Jvm.MethodName)) ∈ GB := gb_t (List.mem_of_getElem? (i := 496) rfl) rfl
set_option maxRecDepth 100000 in
theorem wv_X2_lastPlace : (Jvm.Cond.selects "ReportBlocks$OwnRecord" ({ cls := "ReportBlocks$OwnRecord", name := "lastPlace", desc := "()I" } : Jvm.MethodName) ({ cls := "ReportBlocks$OwnRecord", name := "lastPlace", desc := "()I" } : Jvm.MethodName)) ∈ GB := gb_t (List.mem_of_getElem? (i := 497) rfl) rfl
set_option maxRecDepth 100000 in
theorem wc_X2_lastPlace : Cond.code yX2_lastPlace cX2_lastPlace 2 (Option.some Jvm.ClassFile.FieldType.int) ∈ GB := gb_t (List.mem_of_getElem? (i := 498) rfl) rfl
set_option maxRecDepth 100000 in
theorem wl_X7_201 : (Jvm.Cond.methodLink "ReportBlocks" (201 : Nat) ({ cls := "ReportBlocks$OwnRecord", name := "itemBytes", desc := "()I" } : Jvm.MethodName)) ∈ GB := gb_t (List.mem_of_getElem? (i := 499) rfl) rfl
set_option maxRecDepth 100000 in
theorem wi_X2_itemBytes : (Jvm.Cond.instanceMethod ({ cls := "ReportBlocks$OwnRecord", name := "itemBytes", desc := "()I" } : Jvm.MethodName)) ∈ GB := gb_t (List.mem_of_getElem? (i := 500) rfl) rfl
set_option maxRecDepth 100000 in
theorem wv_X2_itemBytes : (Jvm.Cond.selects "ReportBlocks$OwnRecord" ({ cls := "ReportBlocks$OwnRecord", name := "itemBytes", desc := "()I" } : Jvm.MethodName) ({ cls := "ReportBlocks$OwnRecord", name := "itemBytes", desc := "()I" } : Jvm.MethodName)) ∈ GB := gb_t (List.mem_of_getElem? (i := 501) rfl) rfl
set_option maxRecDepth 100000 in
theorem wc_X2_itemBytes : Cond.code yX2_itemBytes cX2_itemBytes 3 (Option.some Jvm.ClassFile.FieldType.int) ∈ GB := gb_t (List.mem_of_getElem? (i := 502) rfl) rfl
set_option maxRecDepth 100000 in
theorem wl_X7_207 : (Jvm.Cond.methodLink "ReportBlocks" (207 : Nat) ({ cls := "ReportBlocks$Tape", name := "putHead", desc := "(II)V" } : Jvm.MethodName)) ∈ GB := gb_t (List.mem_of_getElem? (i := 503) rfl) rfl
set_option maxRecDepth 100000 in
theorem wi_X4_putHead : (Jvm.Cond.instanceMethod ({ cls := "ReportBlocks$Tape", name := "putHead", desc := "(II)V" } : Jvm.MethodName)) ∈ GB := gb_t (List.mem_of_getElem? (i := 504) rfl) rfl
set_option maxRecDepth 100000 in
theorem wv_X4_putHead : (Jvm.Cond.selects "ReportBlocks$Tape" ({ cls := "ReportBlocks$Tape", name := "putHead", desc := "(II)V" } : Jvm.MethodName) ({ cls := "ReportBlocks$Tape", name := "putHead", desc := "(II)V" } : Jvm.MethodName)) ∈ GB := gb_t (List.mem_of_getElem? (i := 505) rfl) rfl
set_option maxRecDepth 100000 in
theorem wc_X4_putHead : Cond.code yX4_putHead cX4_putHead 3 (Option.none : Option Jvm.ClassFile.FieldType) ∈ GB := gb_t (List.mem_of_getElem? (i := 506) rfl) rfl
set_option maxRecDepth 100000 in
theorem wl_X4_19 : (Jvm.Cond.methodLink "ReportBlocks$Tape" (19 : Nat) ({ cls := "ReportBlocks$Tape", name := "put", desc := "(I)V" } : Jvm.MethodName)) ∈ GB := gb_t (List.mem_of_getElem? (i := 507) rfl) rfl
set_option maxRecDepth 100000 in
theorem wl_X7_211 : (Jvm.Cond.methodLink "ReportBlocks" (211 : Nat) ({ cls := "ReportBlocks$OwnRecord", name := "bitsByte", desc := "(IZ)I" } : Jvm.MethodName)) ∈ GB := gb_t (List.mem_of_getElem? (i := 508) rfl) rfl
set_option maxRecDepth 100000 in
theorem wi_X2_bitsByte : (Jvm.Cond.instanceMethod ({ cls := "ReportBlocks$OwnRecord", name := "bitsByte", desc := "(IZ)I" } : Jvm.MethodName)) ∈ GB := gb_t (List.mem_of_getElem? (i := 509) rfl) rfl
set_option maxRecDepth 100000 in
theorem wv_X2_bitsByte : (Jvm.Cond.selects "ReportBlocks$OwnRecord" ({ cls := "ReportBlocks$OwnRecord", name := "bitsByte", desc := "(IZ)I" } : Jvm.MethodName) ({ cls := "ReportBlocks$OwnRecord", name := "bitsByte", desc := "(IZ)I" } : Jvm.MethodName)) ∈ GB := gb_t (List.mem_of_getElem? (i := 510) rfl) rfl
set_option maxRecDepth 100000 in
theorem wc_X2_bitsByte : Cond.code yX2_bitsByte cX2_bitsByte 6 (Option.some Jvm.ClassFile.FieldType.int) ∈ GB := gb_t (List.mem_of_getElem? (i := 511) rfl) rfl
set_option maxRecDepth 100000 in
theorem wl_X7_216 : (Jvm.Cond.methodLink "ReportBlocks" (216 : Nat) ({ cls := "ReportBlocks$OwnRecord", name := "rowOf", desc := "(I)I" } : Jvm.MethodName)) ∈ GB := gb_t (List.mem_of_getElem? (i := 512) rfl) rfl
set_option maxRecDepth 100000 in
theorem wl_X7_219 : (Jvm.Cond.methodLink "ReportBlocks" (219 : Nat) ({ cls := "ReportBlocks$Tape", name := "putAll", desc := "([III)V" } : Jvm.MethodName)) ∈ GB := gb_t (List.mem_of_getElem? (i := 513) rfl) rfl
set_option maxRecDepth 100000 in
theorem wi_X4_putAll : (Jvm.Cond.instanceMethod ({ cls := "ReportBlocks$Tape", name := "putAll", desc := "([III)V" } : Jvm.MethodName)) ∈ GB := gb_t (List.mem_of_getElem? (i := 514) rfl) rfl
set_option maxRecDepth 100000 in
theorem wv_X4_putAll : (Jvm.Cond.selects "ReportBlocks$Tape" ({ cls := "ReportBlocks$Tape", name := "putAll", desc := "([III)V" } : Jvm.MethodName) ({ cls := "ReportBlocks$Tape", name := "putAll", desc := "([III)V" } : Jvm.MethodName)) ∈ GB := gb_t (List.mem_of_getElem? (i := 515) rfl) rfl
set_option maxRecDepth 100000 in
theorem wc_X4_putAll : Cond.code yX4_putAll cX4_putAll 5 (Option.none : Option Jvm.ClassFile.FieldType) ∈ GB := gb_t (List.mem_of_getElem? (i := 516) rfl) rfl
set_option maxRecDepth 100000 in
theorem wl_L_89 : (Jvm.Cond.methodLink "ReportBlocksLaw" (89 : Nat) ({ cls := "ReportBlocks", name := "copy", desc := "(I)I" } : Jvm.MethodName)) ∈ GB := gb_t (List.mem_of_getElem? (i := 517) rfl) rfl
set_option maxRecDepth 100000 in
theorem wi_X7_copy : (Jvm.Cond.instanceMethod ({ cls := "ReportBlocks", name := "copy", desc := "(I)I" } : Jvm.MethodName)) ∈ GB := gb_t (List.mem_of_getElem? (i := 518) rfl) rfl
set_option maxRecDepth 100000 in
theorem wv_X7_copy : (Jvm.Cond.selects "ReportBlocks" ({ cls := "ReportBlocks", name := "copy", desc := "(I)I" } : Jvm.MethodName) ({ cls := "ReportBlocks", name := "copy", desc := "(I)I" } : Jvm.MethodName)) ∈ GB := gb_t (List.mem_of_getElem? (i := 519) rfl) rfl
set_option maxRecDepth 100000 in
theorem wc_X7_copy : Cond.code yX7_copy cX7_copy 6 (Option.some Jvm.ClassFile.FieldType.int) ∈ GB := gb_t (List.mem_of_getElem? (i := 520) rfl) rfl
set_option maxRecDepth 100000 in
theorem wl_X7_223 : (Jvm.Cond.methodLink "ReportBlocks" (223 : Nat) ({ cls := "ReportBlocks$Block", name := "bytesWithout", desc := "(I)I" } : Jvm.MethodName)) ∈ GB := gb_t (List.mem_of_getElem? (i := 521) rfl) rfl
set_option maxRecDepth 100000 in
theorem wi_X0_bytesWithout : (Jvm.Cond.instanceMethod ({ cls := "ReportBlocks$Block", name := "bytesWithout", desc := "(I)I" } : Jvm.MethodName)) ∈ GB := gb_t (List.mem_of_getElem? (i := 522) rfl) rfl
set_option maxRecDepth 100000 in
theorem wv_X0_bytesWithout : (Jvm.Cond.selects "ReportBlocks$Block" ({ cls := "ReportBlocks$Block", name := "bytesWithout", desc := "(I)I" } : Jvm.MethodName) ({ cls := "ReportBlocks$Block", name := "bytesWithout", desc := "(I)I" } : Jvm.MethodName)) ∈ GB := gb_t (List.mem_of_getElem? (i := 523) rfl) rfl
set_option maxRecDepth 100000 in
theorem wc_X0_bytesWithout : Cond.code yX0_bytesWithout cX0_bytesWithout 4 (Option.some Jvm.ClassFile.FieldType.int) ∈ GB := gb_t (List.mem_of_getElem? (i := 524) rfl) rfl
set_option maxRecDepth 100000 in
theorem wl_X0_53 : (Jvm.Cond.methodLink "ReportBlocks$Block" (53 : Nat) ({ cls := "ReportBlocks$Block", name := "bytesOf", desc := "(I)I" } : Jvm.MethodName)) ∈ GB := gb_t (List.mem_of_getElem? (i := 525) rfl) rfl
set_option maxRecDepth 100000 in
theorem wi_X0_bytesOf : (Jvm.Cond.instanceMethod ({ cls := "ReportBlocks$Block", name := "bytesOf", desc := "(I)I" } : Jvm.MethodName)) ∈ GB := gb_t (List.mem_of_getElem? (i := 526) rfl) rfl
set_option maxRecDepth 100000 in
theorem wv_X0_bytesOf : (Jvm.Cond.selects "ReportBlocks$Block" ({ cls := "ReportBlocks$Block", name := "bytesOf", desc := "(I)I" } : Jvm.MethodName) ({ cls := "ReportBlocks$Block", name := "bytesOf", desc := "(I)I" } : Jvm.MethodName)) ∈ GB := gb_t (List.mem_of_getElem? (i := 527) rfl) rfl
set_option maxRecDepth 100000 in
theorem wc_X0_bytesOf : Cond.code yX0_bytesOf cX0_bytesOf 3 (Option.some Jvm.ClassFile.FieldType.int) ∈ GB := gb_t (List.mem_of_getElem? (i := 528) rfl) rfl
set_option maxRecDepth 100000 in
theorem wl_X7_229 : (Jvm.Cond.methodLink "ReportBlocks" (229 : Nat) ({ cls := "ReportBlocks$Block", name := "bytesOf", desc := "(I)I" } : Jvm.MethodName)) ∈ GB := gb_t (List.mem_of_getElem? (i := 529) rfl) rfl
set_option maxRecDepth 100000 in
theorem wl_L_93 : (Jvm.Cond.methodLink "ReportBlocksLaw" (93 : Nat) ({ cls := "ReportBlocks", name := "tape", desc := "(I)I" } : Jvm.MethodName)) ∈ GB := gb_t (List.mem_of_getElem? (i := 530) rfl) rfl
set_option maxRecDepth 100000 in
theorem wi_X7_tape : (Jvm.Cond.instanceMethod ({ cls := "ReportBlocks", name := "tape", desc := "(I)I" } : Jvm.MethodName)) ∈ GB := gb_t (List.mem_of_getElem? (i := 531) rfl) rfl
set_option maxRecDepth 100000 in
theorem wv_X7_tape : (Jvm.Cond.selects "ReportBlocks" ({ cls := "ReportBlocks", name := "tape", desc := "(I)I" } : Jvm.MethodName) ({ cls := "ReportBlocks", name := "tape", desc := "(I)I" } : Jvm.MethodName)) ∈ GB := gb_t (List.mem_of_getElem? (i := 532) rfl) rfl
set_option maxRecDepth 100000 in
theorem wc_X7_tape : Cond.code yX7_tape cX7_tape 2 (Option.some Jvm.ClassFile.FieldType.int) ∈ GB := gb_t (List.mem_of_getElem? (i := 533) rfl) rfl
set_option maxRecDepth 100000 in
theorem wl_L_97 : (Jvm.Cond.methodLink "ReportBlocksLaw" (97 : Nat) ({ cls := "ReportBlocks", name := "report", desc := "(I)I" } : Jvm.MethodName)) ∈ GB := gb_t (List.mem_of_getElem? (i := 534) rfl) rfl
set_option maxRecDepth 100000 in
theorem wi_X7_report : (Jvm.Cond.instanceMethod ({ cls := "ReportBlocks", name := "report", desc := "(I)I" } : Jvm.MethodName)) ∈ GB := gb_t (List.mem_of_getElem? (i := 535) rfl) rfl
set_option maxRecDepth 100000 in
theorem wv_X7_report : (Jvm.Cond.selects "ReportBlocks" ({ cls := "ReportBlocks", name := "report", desc := "(I)I" } : Jvm.MethodName) ({ cls := "ReportBlocks", name := "report", desc := "(I)I" } : Jvm.MethodName)) ∈ GB := gb_t (List.mem_of_getElem? (i := 536) rfl) rfl
set_option maxRecDepth 100000 in
theorem wc_X7_report : Cond.code yX7_report cX7_report 9 (Option.some Jvm.ClassFile.FieldType.int) ∈ GB := gb_t (List.mem_of_getElem? (i := 537) rfl) rfl
set_option maxRecDepth 100000 in
theorem wl_X7_232 : (Jvm.Cond.methodLink "ReportBlocks" (232 : Nat) ({ cls := "ReportBlocks$Category", name := "tellsTrack", desc := "()Z" } : Jvm.MethodName)) ∈ GB := gb_t (List.mem_of_getElem? (i := 538) rfl) rfl
set_option maxRecDepth 100000 in
theorem wi_X1_tellsTrack : (Jvm.Cond.instanceMethod ({ cls := "ReportBlocks$Category", name := "tellsTrack", desc := "()Z" } : Jvm.MethodName)) ∈ GB := gb_t (List.mem_of_getElem? (i := 539) rfl) rfl
set_option maxRecDepth 100000 in
theorem wv_X1_tellsTrack : (Jvm.Cond.selects "ReportBlocks$Category" ({ cls := "ReportBlocks$Category", name := "tellsTrack", desc := "()Z" } : Jvm.MethodName) ({ cls := "ReportBlocks$Category", name := "tellsTrack", desc := "()Z" } : Jvm.MethodName)) ∈ GB := gb_t (List.mem_of_getElem? (i := 540) rfl) rfl
set_option maxRecDepth 100000 in
theorem wc_X1_tellsTrack : Cond.code yX1_tellsTrack cX1_tellsTrack 1 (Option.some Jvm.ClassFile.FieldType.boolean) ∈ GB := gb_t (List.mem_of_getElem? (i := 541) rfl) rfl
set_option maxRecDepth 100000 in
theorem wl_X1_37 : (Jvm.Cond.methodLink "ReportBlocks$Category" (37 : Nat) ({ cls := "ReportBlocks$Category", name := "isFixed", desc := "(II)Z" } : Jvm.MethodName)) ∈ GB := gb_t (List.mem_of_getElem? (i := 542) rfl) rfl
set_option maxRecDepth 100000 in
theorem wl_X7_236 : (Jvm.Cond.methodLink "ReportBlocks" (236 : Nat) ({ cls := "ReportBlocks$TrackRow", name := "update", desc := "(III)I" } : Jvm.MethodName)) ∈ GB := gb_t (List.mem_of_getElem? (i := 543) rfl) rfl
set_option maxRecDepth 100000 in
theorem wi_X6_update : (Jvm.Cond.instanceMethod ({ cls := "ReportBlocks$TrackRow", name := "update", desc := "(III)I" } : Jvm.MethodName)) ∈ GB := gb_t (List.mem_of_getElem? (i := 544) rfl) rfl
set_option maxRecDepth 100000 in
theorem wv_X6_update : (Jvm.Cond.selects "ReportBlocks$TrackRow" ({ cls := "ReportBlocks$TrackRow", name := "update", desc := "(III)I" } : Jvm.MethodName) ({ cls := "ReportBlocks$TrackRow", name := "update", desc := "(III)I" } : Jvm.MethodName)) ∈ GB := gb_t (List.mem_of_getElem? (i := 545) rfl) rfl
set_option maxRecDepth 100000 in
theorem wc_X6_update : Cond.code yX6_update cX6_update 5 (Option.some Jvm.ClassFile.FieldType.int) ∈ GB := gb_t (List.mem_of_getElem? (i := 546) rfl) rfl
set_option maxRecDepth 100000 in
theorem wl_X6_25 : (Jvm.Cond.methodLink "ReportBlocks$TrackRow" (25 : Nat) ({ cls := "ReportBlocks$Track", name := "update", desc := "(II)V" } : Jvm.MethodName)) ∈ GB := gb_t (List.mem_of_getElem? (i := 547) rfl) rfl
set_option maxRecDepth 100000 in
theorem wi_X5_update : (Jvm.Cond.instanceMethod ({ cls := "ReportBlocks$Track", name := "update", desc := "(II)V" } : Jvm.MethodName)) ∈ GB := gb_t (List.mem_of_getElem? (i := 548) rfl) rfl
set_option maxRecDepth 100000 in
theorem wv_X5_update : (Jvm.Cond.selects "ReportBlocks$Track" ({ cls := "ReportBlocks$Track", name := "update", desc := "(II)V" } : Jvm.MethodName) ({ cls := "ReportBlocks$Track", name := "update", desc := "(II)V" } : Jvm.MethodName)) ∈ GB := gb_t (List.mem_of_getElem? (i := 549) rfl) rfl
set_option maxRecDepth 100000 in
theorem wc_X5_update : Cond.code yX5_update cX5_update 4 (Option.none : Option Jvm.ClassFile.FieldType) ∈ GB := gb_t (List.mem_of_getElem? (i := 550) rfl) rfl
set_option maxRecDepth 100000 in
theorem wl_X5_31 : (Jvm.Cond.methodLink "ReportBlocks$Track" (31 : Nat) ({ cls := "java/lang/Math", name := "max", desc := "(II)I" } : Jvm.MethodName)) ∈ GB := gb_t (List.mem_of_getElem? (i := 551) rfl) rfl
set_option maxRecDepth 100000 in
theorem wt_J9_max_7cf53 : (Jvm.Cond.static ({ cls := "java/lang/Math", name := "max", desc := "(II)I" } : Jvm.MethodName)) ∈ GB := gb_t (List.mem_of_getElem? (i := 552) rfl) rfl
set_option maxRecDepth 100000 in
theorem wc_J9_max_7cf53 : Cond.code yJ9_max_7cf53 cJ9_max_7cf53 2 (Option.some Jvm.ClassFile.FieldType.int) ∈ GB := gb_t (List.mem_of_getElem? (i := 553) rfl) rfl
set_option maxRecDepth 100000 in
theorem wl_X6_32 : (Jvm.Cond.methodLink "ReportBlocks$TrackRow" (32 : Nat) ({ cls := "ReportBlocks$Track", name := "come", desc := "(III)V" } : Jvm.MethodName)) ∈ GB := gb_t (List.mem_of_getElem? (i := 554) rfl) rfl
set_option maxRecDepth 100000 in
theorem wi_X5_come : (Jvm.Cond.instanceMethod ({ cls := "ReportBlocks$Track", name := "come", desc := "(III)V" } : Jvm.MethodName)) ∈ GB := gb_t (List.mem_of_getElem? (i := 555) rfl) rfl
set_option maxRecDepth 100000 in
theorem wv_X5_come : (Jvm.Cond.selects "ReportBlocks$Track" ({ cls := "ReportBlocks$Track", name := "come", desc := "(III)V" } : Jvm.MethodName) ({ cls := "ReportBlocks$Track", name := "come", desc := "(III)V" } : Jvm.MethodName)) ∈ GB := gb_t (List.mem_of_getElem? (i := 556) rfl) rfl
set_option maxRecDepth 100000 in
theorem wc_X5_come : Cond.code yX5_come cX5_come 4 (Option.none : Option Jvm.ClassFile.FieldType) ∈ GB := gb_t (List.mem_of_getElem? (i := 557) rfl) rfl
set_option maxRecDepth 100000 in
theorem wl_X5_24 : (Jvm.Cond.methodLink "ReportBlocks$Track" (24 : Nat) ({ cls := "ReportBlocks$Track", name := "update", desc := "(II)V" } : Jvm.MethodName)) ∈ GB := gb_t (List.mem_of_getElem? (i := 558) rfl) rfl
set_option maxRecDepth 100000 in
theorem wl_L_101 : (Jvm.Cond.methodLink "ReportBlocksLaw" (101 : Nat) ({ cls := "ReportBlocks", name := "tick", desc := "(I)I" } : Jvm.MethodName)) ∈ GB := gb_t (List.mem_of_getElem? (i := 559) rfl) rfl
set_option maxRecDepth 100000 in
theorem wi_X7_tick : (Jvm.Cond.instanceMethod ({ cls := "ReportBlocks", name := "tick", desc := "(I)I" } : Jvm.MethodName)) ∈ GB := gb_t (List.mem_of_getElem? (i := 560) rfl) rfl
set_option maxRecDepth 100000 in
theorem wv_X7_tick : (Jvm.Cond.selects "ReportBlocks" ({ cls := "ReportBlocks", name := "tick", desc := "(I)I" } : Jvm.MethodName) ({ cls := "ReportBlocks", name := "tick", desc := "(I)I" } : Jvm.MethodName)) ∈ GB := gb_t (List.mem_of_getElem? (i := 561) rfl) rfl
set_option maxRecDepth 100000 in
theorem wc_X7_tick : Cond.code yX7_tick cX7_tick 4 (Option.some Jvm.ClassFile.FieldType.int) ∈ GB := gb_t (List.mem_of_getElem? (i := 562) rfl) rfl
set_option maxRecDepth 100000 in
theorem wl_X7_243 : (Jvm.Cond.methodLink "ReportBlocks" (243 : Nat) ({ cls := "ReportBlocks$TrackRow", name := "passTick", desc := "()V" } : Jvm.MethodName)) ∈ GB := gb_t (List.mem_of_getElem? (i := 563) rfl) rfl
set_option maxRecDepth 100000 in
theorem wi_X6_passTick : (Jvm.Cond.instanceMethod ({ cls := "ReportBlocks$TrackRow", name := "passTick", desc := "()V" } : Jvm.MethodName)) ∈ GB := gb_t (List.mem_of_getElem? (i := 564) rfl) rfl
set_option maxRecDepth 100000 in
theorem wv_X6_passTick : (Jvm.Cond.selects "ReportBlocks$TrackRow" ({ cls := "ReportBlocks$TrackRow", name := "passTick", desc := "()V" } : Jvm.MethodName) ({ cls := "ReportBlocks$TrackRow", name := "passTick", desc := "()V" } : Jvm.MethodName)) ∈ GB := gb_t (List.mem_of_getElem? (i := 565) rfl) rfl
set_option maxRecDepth 100000 in
theorem wc_X6_passTick : Cond.code yX6_passTick cX6_passTick 4 (Option.none : Option Jvm.ClassFile.FieldType) ∈ GB := gb_t (List.mem_of_getElem? (i := 566) rfl) rfl
set_option maxRecDepth 100000 in
theorem wl_X6_39 : (Jvm.Cond.methodLink "ReportBlocks$TrackRow" (39 : Nat) ({ cls := "ReportBlocks$Track", name := "passTick", desc := "()V" } : Jvm.MethodName)) ∈ GB := gb_t (List.mem_of_getElem? (i := 567) rfl) rfl
set_option maxRecDepth 100000 in
theorem wi_X5_passTick : (Jvm.Cond.instanceMethod ({ cls := "ReportBlocks$Track", name := "passTick", desc := "()V" } : Jvm.MethodName)) ∈ GB := gb_t (List.mem_of_getElem? (i := 568) rfl) rfl
set_option maxRecDepth 100000 in
theorem wv_X5_passTick : (Jvm.Cond.selects "ReportBlocks$Track" ({ cls := "ReportBlocks$Track", name := "passTick", desc := "()V" } : Jvm.MethodName) ({ cls := "ReportBlocks$Track", name := "passTick", desc := "()V" } : Jvm.MethodName)) ∈ GB := gb_t (List.mem_of_getElem? (i := 569) rfl) rfl
set_option maxRecDepth 100000 in
theorem wc_X5_passTick : Cond.code yX5_passTick cX5_passTick 1 (Option.none : Option Jvm.ClassFile.FieldType) ∈ GB := gb_t (List.mem_of_getElem? (i := 570) rfl) rfl
set_option maxRecDepth 100000 in
theorem wl_L_105 : (Jvm.Cond.methodLink "ReportBlocksLaw" (105 : Nat) ({ cls := "ReportBlocks", name := "track", desc := "(II)I" } : Jvm.MethodName)) ∈ GB := gb_t (List.mem_of_getElem? (i := 571) rfl) rfl
set_option maxRecDepth 100000 in
theorem wi_X7_track : (Jvm.Cond.instanceMethod ({ cls := "ReportBlocks", name := "track", desc := "(II)I" } : Jvm.MethodName)) ∈ GB := gb_t (List.mem_of_getElem? (i := 572) rfl) rfl
set_option maxRecDepth 100000 in
theorem wv_X7_track : (Jvm.Cond.selects "ReportBlocks" ({ cls := "ReportBlocks", name := "track", desc := "(II)I" } : Jvm.MethodName) ({ cls := "ReportBlocks", name := "track", desc := "(II)I" } : Jvm.MethodName)) ∈ GB := gb_t (List.mem_of_getElem? (i := 573) rfl) rfl
set_option maxRecDepth 100000 in
theorem wc_X7_track : Cond.code yX7_track cX7_track 4 (Option.some Jvm.ClassFile.FieldType.int) ∈ GB := gb_t (List.mem_of_getElem? (i := 574) rfl) rfl
set_option maxRecDepth 100000 in
theorem wl_L_110 : (Jvm.Cond.methodLink "ReportBlocksLaw" (110 : Nat) ({ cls := "ReportBlocks", name := "count", desc := "(I)I" } : Jvm.MethodName)) ∈ GB := gb_t (List.mem_of_getElem? (i := 575) rfl) rfl
set_option maxRecDepth 100000 in
theorem wi_X7_count : (Jvm.Cond.instanceMethod ({ cls := "ReportBlocks", name := "count", desc := "(I)I" } : Jvm.MethodName)) ∈ GB := gb_t (List.mem_of_getElem? (i := 576) rfl) rfl
set_option maxRecDepth 100000 in
theorem wv_X7_count : (Jvm.Cond.selects "ReportBlocks" ({ cls := "ReportBlocks", name := "count", desc := "(I)I" } : Jvm.MethodName) ({ cls := "ReportBlocks", name := "count", desc := "(I)I" } : Jvm.MethodName)) ∈ GB := gb_t (List.mem_of_getElem? (i := 577) rfl) rfl
set_option maxRecDepth 100000 in
theorem wc_X7_count : Cond.code yX7_count cX7_count 2 (Option.some Jvm.ClassFile.FieldType.int) ∈ GB := gb_t (List.mem_of_getElem? (i := 578) rfl) rfl
set_option maxRecDepth 100000 in
theorem wk_L_10 : (Jvm.Cond.classLink "ReportBlocksLaw" (10 : Nat) "ReportBlocksModel") ∈ GB := gb_t (List.mem_of_getElem? (i := 579) rfl) rfl
set_option maxRecDepth 100000 in
theorem wb_X8 : (Jvm.Cond.instantiable "ReportBlocksModel" (46 : Nat)) ∈ GB := gb_t (List.mem_of_getElem? (i := 580) rfl) rfl
set_option maxRecDepth 100000 in
theorem wl_L_12 : (Jvm.Cond.methodLink "ReportBlocksLaw" (12 : Nat) ({ cls := "ReportBlocksModel", name := "<init>", desc := "()V" } : Jvm.MethodName)) ∈ GB := gb_t (List.mem_of_getElem? (i := 581) rfl) rfl
set_option maxRecDepth 100000 in
theorem wi_X8_init : (Jvm.Cond.instanceMethod ({ cls := "ReportBlocksModel", name := "<init>", desc := "()V" } : Jvm.MethodName)) ∈ GB := gb_t (List.mem_of_getElem? (i := 582) rfl) rfl
set_option maxRecDepth 100000 in
theorem wc_X8_init : Cond.code yX8_init cX8_init 1 (Option.none : Option Jvm.ClassFile.FieldType) ∈ GB := gb_t (List.mem_of_getElem? (i := 583) rfl) rfl
set_option maxRecDepth 100000 in
theorem wl_X8_1 : (Jvm.Cond.methodLink "ReportBlocksModel" (1 : Nat) ({ cls := "java/lang/Object", name := "<init>", desc := "()V" } : Jvm.MethodName)) ∈ GB := gb_t (List.mem_of_getElem? (i := 584) rfl) rfl
set_option maxRecDepth 100000 in
theorem wf_X8_102 : (Jvm.Cond.fieldLink "ReportBlocksModel" (102 : Nat) "ReportBlocksModel" "categories" "I") ∈ GB := gb_t (List.mem_of_getElem? (i := 585) rfl) rfl
set_option maxRecDepth 100000 in
theorem wf_X8_7 : (Jvm.Cond.fieldLink "ReportBlocksModel" (7 : Nat) "ReportBlocksModel" "numberOf" "[I") ∈ GB := gb_t (List.mem_of_getElem? (i := 586) rfl) rfl
set_option maxRecDepth 100000 in
theorem wf_X8_13 : (Jvm.Cond.fieldLink "ReportBlocksModel" (13 : Nat) "ReportBlocksModel" "kind" "[I") ∈ GB := gb_t (List.mem_of_getElem? (i := 587) rfl) rfl
set_option maxRecDepth 100000 in
theorem wf_X8_16 : (Jvm.Cond.fieldLink "ReportBlocksModel" (16 : Nat) "ReportBlocksModel" "bytes" "[I") ∈ GB := gb_t (List.mem_of_getElem? (i := 588) rfl) rfl
set_option maxRecDepth 100000 in
theorem wf_X8_19 : (Jvm.Cond.fieldLink "ReportBlocksModel" (19 : Nat) "ReportBlocksModel" "parts" "[I") ∈ GB := gb_t (List.mem_of_getElem? (i := 589) rfl) rfl
set_option maxRecDepth 100000 in
theorem wf_X8_22 : (Jvm.Cond.fieldLink "ReportBlocksModel" (22 : Nat) "ReportBlocksModel" "trackBy" "[I") ∈ GB := gb_t (List.mem_of_getElem? (i := 590) rfl) rfl
set_option maxRecDepth 100000 in
theorem wf_X8_25 : (Jvm.Cond.fieldLink "ReportBlocksModel" (25 : Nat) "ReportBlocksModel" "whereBy" "[I") ∈ GB := gb_t (List.mem_of_getElem? (i := 591) rfl) rfl
set_option maxRecDepth 100000 in
theorem wf_X8_28 : (Jvm.Cond.fieldLink "ReportBlocksModel" (28 : Nat) "ReportBlocksModel" "tape" "[I") ∈ GB := gb_t (List.mem_of_getElem? (i := 592) rfl) rfl
set_option maxRecDepth 100000 in
theorem wf_X8_133 : (Jvm.Cond.fieldLink "ReportBlocksModel" (133 : Nat) "ReportBlocksModel" "size" "I") ∈ GB := gb_t (List.mem_of_getElem? (i := 593) rfl) rfl
set_option maxRecDepth 100000 in
theorem wf_X8_142 : (Jvm.Cond.fieldLink "ReportBlocksModel" (142 : Nat) "ReportBlocksModel" "at" "I") ∈ GB := gb_t (List.mem_of_getElem? (i := 594) rfl) rfl
set_option maxRecDepth 100000 in
theorem wf_X8_145 : (Jvm.Cond.fieldLink "ReportBlocksModel" (145 : Nat) "ReportBlocksModel" "end" "I") ∈ GB := gb_t (List.mem_of_getElem? (i := 595) rfl) rfl
set_option maxRecDepth 100000 in
theorem wf_X8_136 : (Jvm.Cond.fieldLink "ReportBlocksModel" (136 : Nat) "ReportBlocksModel" "fault" "I") ∈ GB := gb_t (List.mem_of_getElem? (i := 596) rfl) rfl
set_option maxRecDepth 100000 in
theorem wf_X8_139 : (Jvm.Cond.fieldLink "ReportBlocksModel" (139 : Nat) "ReportBlocksModel" "faultAt" "I") ∈ GB := gb_t (List.mem_of_getElem? (i := 597) rfl) rfl
set_option maxRecDepth 100000 in
theorem wf_X8_190 : (Jvm.Cond.fieldLink "ReportBlocksModel" (190 : Nat) "ReportBlocksModel" "toldFault" "I") ∈ GB := gb_t (List.mem_of_getElem? (i := 598) rfl) rfl
set_option maxRecDepth 100000 in
theorem wf_X8_117 : (Jvm.Cond.fieldLink "ReportBlocksModel" (117 : Nat) "ReportBlocksModel" "records" "I") ∈ GB := gb_t (List.mem_of_getElem? (i := 599) rfl) rfl
set_option maxRecDepth 100000 in
theorem wf_X8_99 : (Jvm.Cond.fieldLink "ReportBlocksModel" (99 : Nat) "ReportBlocksModel" "recordsOf" "I") ∈ GB := gb_t (List.mem_of_getElem? (i := 600) rfl) rfl
set_option maxRecDepth 100000 in
theorem wf_X8_31 : (Jvm.Cond.fieldLink "ReportBlocksModel" (31 : Nat) "ReportBlocksModel" "block" "[I") ∈ GB := gb_t (List.mem_of_getElem? (i := 601) rfl) rfl
set_option maxRecDepth 100000 in
theorem wf_X8_34 : (Jvm.Cond.fieldLink "ReportBlocksModel" (34 : Nat) "ReportBlocksModel" "begins" "[I") ∈ GB := gb_t (List.mem_of_getElem? (i := 602) rfl) rfl
set_option maxRecDepth 100000 in
theorem wf_X8_37 : (Jvm.Cond.fieldLink "ReportBlocksModel" (37 : Nat) "ReportBlocksModel" "itemAt" "[I") ∈ GB := gb_t (List.mem_of_getElem? (i := 603) rfl) rfl
set_option maxRecDepth 100000 in
theorem wf_X8_40 : (Jvm.Cond.fieldLink "ReportBlocksModel" (40 : Nat) "ReportBlocksModel" "itemSize" "[I") ∈ GB := gb_t (List.mem_of_getElem? (i := 604) rfl) rfl
set_option maxRecDepth 100000 in
theorem wf_X8_178 : (Jvm.Cond.fieldLink "ReportBlocksModel" (178 : Nat) "ReportBlocksModel" "draftRecords" "I") ∈ GB := gb_t (List.mem_of_getElem? (i := 605) rfl) rfl
set_option maxRecDepth 100000 in
theorem wf_X8_43 : (Jvm.Cond.fieldLink "ReportBlocksModel" (43 : Nat) "ReportBlocksModel" "draftBegins" "[I") ∈ GB := gb_t (List.mem_of_getElem? (i := 606) rfl) rfl
set_option maxRecDepth 100000 in
theorem wf_X8_46 : (Jvm.Cond.fieldLink "ReportBlocksModel" (46 : Nat) "ReportBlocksModel" "draftAt" "[I") ∈ GB := gb_t (List.mem_of_getElem? (i := 607) rfl) rfl
set_option maxRecDepth 100000 in
theorem wf_X8_49 : (Jvm.Cond.fieldLink "ReportBlocksModel" (49 : Nat) "ReportBlocksModel" "draftSize" "[I") ∈ GB := gb_t (List.mem_of_getElem? (i := 608) rfl) rfl
set_option maxRecDepth 100000 in
theorem wf_X8_52 : (Jvm.Cond.fieldLink "ReportBlocksModel" (52 : Nat) "ReportBlocksModel" "hasBit" "[Z") ∈ GB := gb_t (List.mem_of_getElem? (i := 609) rfl) rfl
set_option maxRecDepth 100000 in
theorem wf_X8_56 : (Jvm.Cond.fieldLink "ReportBlocksModel" (56 : Nat) "ReportBlocksModel" "own" "I") ∈ GB := gb_t (List.mem_of_getElem? (i := 610) rfl) rfl
set_option maxRecDepth 100000 in
theorem wf_X8_60 : (Jvm.Cond.fieldLink "ReportBlocksModel" (60 : Nat) "ReportBlocksModel" "ownSize" "[I") ∈ GB := gb_t (List.mem_of_getElem? (i := 611) rfl) rfl
set_option maxRecDepth 100000 in
theorem wf_X8_63 : (Jvm.Cond.fieldLink "ReportBlocksModel" (63 : Nat) "ReportBlocksModel" "ownByte" "[I") ∈ GB := gb_t (List.mem_of_getElem? (i := 612) rfl) rfl
set_option maxRecDepth 100000 in
theorem wf_X8_216 : (Jvm.Cond.fieldLink "ReportBlocksModel" (216 : Nat) "ReportBlocksModel" "tracks" "I") ∈ GB := gb_t (List.mem_of_getElem? (i := 613) rfl) rfl
set_option maxRecDepth 100000 in
theorem wf_X8_66 : (Jvm.Cond.fieldLink "ReportBlocksModel" (66 : Nat) "ReportBlocksModel" "track" "[I") ∈ GB := gb_t (List.mem_of_getElem? (i := 614) rfl) rfl
set_option maxRecDepth 100000 in
theorem wf_X8_69 : (Jvm.Cond.fieldLink "ReportBlocksModel" (69 : Nat) "ReportBlocksModel" "x" "[I") ∈ GB := gb_t (List.mem_of_getElem? (i := 615) rfl) rfl
set_option maxRecDepth 100000 in
theorem wf_X8_72 : (Jvm.Cond.fieldLink "ReportBlocksModel" (72 : Nat) "ReportBlocksModel" "y" "[I") ∈ GB := gb_t (List.mem_of_getElem? (i := 616) rfl) rfl
set_option maxRecDepth 100000 in
theorem wf_X8_75 : (Jvm.Cond.fieldLink "ReportBlocksModel" (75 : Nat) "ReportBlocksModel" "speedX" "[I") ∈ GB := gb_t (List.mem_of_getElem? (i := 617) rfl) rfl
set_option maxRecDepth 100000 in
theorem wf_X8_78 : (Jvm.Cond.fieldLink "ReportBlocksModel" (78 : Nat) "ReportBlocksModel" "speedY" "[I") ∈ GB := gb_t (List.mem_of_getElem? (i := 618) rfl) rfl
set_option maxRecDepth 100000 in
theorem wf_X8_81 : (Jvm.Cond.fieldLink "ReportBlocksModel" (81 : Nat) "ReportBlocksModel" "age" "[I") ∈ GB := gb_t (List.mem_of_getElem? (i := 619) rfl) rfl
set_option maxRecDepth 100000 in
theorem wf_X8_84 : (Jvm.Cond.fieldLink "ReportBlocksModel" (84 : Nat) "ReportBlocksModel" "hits" "[I") ∈ GB := gb_t (List.mem_of_getElem? (i := 620) rfl) rfl
set_option maxRecDepth 100000 in
theorem wf_X8_87 : (Jvm.Cond.fieldLink "ReportBlocksModel" (87 : Nat) "ReportBlocksModel" "lastX" "[I") ∈ GB := gb_t (List.mem_of_getElem? (i := 621) rfl) rfl
set_option maxRecDepth 100000 in
theorem wf_X8_90 : (Jvm.Cond.fieldLink "ReportBlocksModel" (90 : Nat) "ReportBlocksModel" "lastY" "[I") ∈ GB := gb_t (List.mem_of_getElem? (i := 622) rfl) rfl
set_option maxRecDepth 100000 in
theorem wf_X8_93 : (Jvm.Cond.fieldLink "ReportBlocksModel" (93 : Nat) "ReportBlocksModel" "lastTick" "[I") ∈ GB := gb_t (List.mem_of_getElem? (i := 623) rfl) rfl
set_option maxRecDepth 100000 in
theorem wf_X8_226 : (Jvm.Cond.fieldLink "ReportBlocksModel" (226 : Nat) "ReportBlocksModel" "lost" "I") ∈ GB := gb_t (List.mem_of_getElem? (i := 624) rfl) rfl
set_option maxRecDepth 100000 in
theorem wf_X8_235 : (Jvm.Cond.fieldLink "ReportBlocksModel" (235 : Nat) "ReportBlocksModel" "dropped" "I") ∈ GB := gb_t (List.mem_of_getElem? (i := 625) rfl) rfl
set_option maxRecDepth 100000 in
theorem wf_X8_229 : (Jvm.Cond.fieldLink "ReportBlocksModel" (229 : Nat) "ReportBlocksModel" "ticks" "I") ∈ GB := gb_t (List.mem_of_getElem? (i := 626) rfl) rfl
set_option maxRecDepth 100000 in
theorem wf_X8_193 : (Jvm.Cond.fieldLink "ReportBlocksModel" (193 : Nat) "ReportBlocksModel" "blocks" "I") ∈ GB := gb_t (List.mem_of_getElem? (i := 627) rfl) rfl
set_option maxRecDepth 100000 in
theorem wf_X8_156 : (Jvm.Cond.fieldLink "ReportBlocksModel" (156 : Nat) "ReportBlocksModel" "bitsAt" "I") ∈ GB := gb_t (List.mem_of_getElem? (i := 628) rfl) rfl
set_option maxRecDepth 100000 in
theorem wf_X8_159 : (Jvm.Cond.fieldLink "ReportBlocksModel" (159 : Nat) "ReportBlocksModel" "bitBytes" "I") ∈ GB := gb_t (List.mem_of_getElem? (i := 629) rfl) rfl
set_option maxRecDepth 100000 in
theorem wf_X8_96 : (Jvm.Cond.fieldLink "ReportBlocksModel" (96 : Nat) "ReportBlocksModel" "hasPlace" "[Z") ∈ GB := gb_t (List.mem_of_getElem? (i := 630) rfl) rfl
set_option maxRecDepth 100000 in
theorem wy_X8_categories : (Jvm.Cond.lays "ReportBlocksModel" "ReportBlocksModel" "categories" "I") ∈ GB := gb_t (List.mem_of_getElem? (i := 631) rfl) rfl
set_option maxRecDepth 100000 in
theorem wy_X8_numberOf : (Jvm.Cond.laysFinal "ReportBlocksModel" "ReportBlocksModel" "numberOf" "[I") ∈ GB := gb_t (List.mem_of_getElem? (i := 633) rfl) rfl
set_option maxRecDepth 100000 in
theorem wy_X8_kind : (Jvm.Cond.laysFinal "ReportBlocksModel" "ReportBlocksModel" "kind" "[I") ∈ GB := gb_t (List.mem_of_getElem? (i := 635) rfl) rfl
set_option maxRecDepth 100000 in
theorem wy_X8_bytes : (Jvm.Cond.laysFinal "ReportBlocksModel" "ReportBlocksModel" "bytes" "[I") ∈ GB := gb_t (List.mem_of_getElem? (i := 637) rfl) rfl
set_option maxRecDepth 100000 in
theorem wy_X8_parts : (Jvm.Cond.laysFinal "ReportBlocksModel" "ReportBlocksModel" "parts" "[I") ∈ GB := gb_t (List.mem_of_getElem? (i := 639) rfl) rfl
set_option maxRecDepth 100000 in
theorem wy_X8_trackBy : (Jvm.Cond.laysFinal "ReportBlocksModel" "ReportBlocksModel" "trackBy" "[I") ∈ GB := gb_t (List.mem_of_getElem? (i := 641) rfl) rfl
set_option maxRecDepth 100000 in
theorem wy_X8_whereBy : (Jvm.Cond.laysFinal "ReportBlocksModel" "ReportBlocksModel" "whereBy" "[I") ∈ GB := gb_t (List.mem_of_getElem? (i := 643) rfl) rfl
set_option maxRecDepth 100000 in
theorem wy_X8_tape : (Jvm.Cond.laysFinal "ReportBlocksModel" "ReportBlocksModel" "tape" "[I") ∈ GB := gb_t (List.mem_of_getElem? (i := 645) rfl) rfl
set_option maxRecDepth 100000 in
theorem wy_X8_size : (Jvm.Cond.lays "ReportBlocksModel" "ReportBlocksModel" "size" "I") ∈ GB := gb_t (List.mem_of_getElem? (i := 647) rfl) rfl
set_option maxRecDepth 100000 in
theorem wy_X8_at : (Jvm.Cond.lays "ReportBlocksModel" "ReportBlocksModel" "at" "I") ∈ GB := gb_t (List.mem_of_getElem? (i := 649) rfl) rfl
set_option maxRecDepth 100000 in
theorem wy_X8_end : (Jvm.Cond.lays "ReportBlocksModel" "ReportBlocksModel" "end" "I") ∈ GB := gb_t (List.mem_of_getElem? (i := 651) rfl) rfl
set_option maxRecDepth 100000 in
theorem wy_X8_fault : (Jvm.Cond.lays "ReportBlocksModel" "ReportBlocksModel" "fault" "I") ∈ GB := gb_t (List.mem_of_getElem? (i := 653) rfl) rfl
set_option maxRecDepth 100000 in
theorem wy_X8_faultAt : (Jvm.Cond.lays "ReportBlocksModel" "ReportBlocksModel" "faultAt" "I") ∈ GB := gb_t (List.mem_of_getElem? (i := 655) rfl) rfl
set_option maxRecDepth 100000 in
theorem wy_X8_toldFault : (Jvm.Cond.lays "ReportBlocksModel" "ReportBlocksModel" "toldFault" "I") ∈ GB := gb_t (List.mem_of_getElem? (i := 657) rfl) rfl
set_option maxRecDepth 100000 in
theorem wy_X8_records : (Jvm.Cond.lays "ReportBlocksModel" "ReportBlocksModel" "records" "I") ∈ GB := gb_t (List.mem_of_getElem? (i := 659) rfl) rfl
set_option maxRecDepth 100000 in
theorem wy_X8_recordsOf : (Jvm.Cond.lays "ReportBlocksModel" "ReportBlocksModel" "recordsOf" "I") ∈ GB := gb_t (List.mem_of_getElem? (i := 661) rfl) rfl
set_option maxRecDepth 100000 in
theorem wy_X8_block : (Jvm.Cond.laysFinal "ReportBlocksModel" "ReportBlocksModel" "block" "[I") ∈ GB := gb_t (List.mem_of_getElem? (i := 663) rfl) rfl
set_option maxRecDepth 100000 in
theorem wy_X8_begins : (Jvm.Cond.laysFinal "ReportBlocksModel" "ReportBlocksModel" "begins" "[I") ∈ GB := gb_t (List.mem_of_getElem? (i := 665) rfl) rfl
set_option maxRecDepth 100000 in
theorem wy_X8_itemAt : (Jvm.Cond.laysFinal "ReportBlocksModel" "ReportBlocksModel" "itemAt" "[I") ∈ GB := gb_t (List.mem_of_getElem? (i := 667) rfl) rfl
set_option maxRecDepth 100000 in
theorem wy_X8_itemSize : (Jvm.Cond.laysFinal "ReportBlocksModel" "ReportBlocksModel" "itemSize" "[I") ∈ GB := gb_t (List.mem_of_getElem? (i := 669) rfl) rfl
set_option maxRecDepth 100000 in
theorem wy_X8_draftRecords : (Jvm.Cond.lays "ReportBlocksModel" "ReportBlocksModel" "draftRecords" "I") ∈ GB := gb_t (List.mem_of_getElem? (i := 671) rfl) rfl
set_option maxRecDepth 100000 in
theorem wy_X8_draftBegins : (Jvm.Cond.laysFinal "ReportBlocksModel" "ReportBlocksModel" "draftBegins" "[I") ∈ GB := gb_t (List.mem_of_getElem? (i := 673) rfl) rfl
set_option maxRecDepth 100000 in
theorem wy_X8_draftAt : (Jvm.Cond.laysFinal "ReportBlocksModel" "ReportBlocksModel" "draftAt" "[I") ∈ GB := gb_t (List.mem_of_getElem? (i := 675) rfl) rfl
set_option maxRecDepth 100000 in
theorem wy_X8_draftSize : (Jvm.Cond.laysFinal "ReportBlocksModel" "ReportBlocksModel" "draftSize" "[I") ∈ GB := gb_t (List.mem_of_getElem? (i := 677) rfl) rfl
set_option maxRecDepth 100000 in
theorem wy_X8_hasBit : (Jvm.Cond.laysFinal "ReportBlocksModel" "ReportBlocksModel" "hasBit" "[Z") ∈ GB := gb_t (List.mem_of_getElem? (i := 679) rfl) rfl
set_option maxRecDepth 100000 in
theorem wy_X8_own : (Jvm.Cond.lays "ReportBlocksModel" "ReportBlocksModel" "own" "I") ∈ GB := gb_t (List.mem_of_getElem? (i := 681) rfl) rfl
set_option maxRecDepth 100000 in
theorem wy_X8_ownSize : (Jvm.Cond.laysFinal "ReportBlocksModel" "ReportBlocksModel" "ownSize" "[I") ∈ GB := gb_t (List.mem_of_getElem? (i := 683) rfl) rfl
set_option maxRecDepth 100000 in
theorem wy_X8_ownByte : (Jvm.Cond.laysFinal "ReportBlocksModel" "ReportBlocksModel" "ownByte" "[I") ∈ GB := gb_t (List.mem_of_getElem? (i := 685) rfl) rfl
set_option maxRecDepth 100000 in
theorem wy_X8_tracks : (Jvm.Cond.lays "ReportBlocksModel" "ReportBlocksModel" "tracks" "I") ∈ GB := gb_t (List.mem_of_getElem? (i := 687) rfl) rfl
set_option maxRecDepth 100000 in
theorem wy_X8_track : (Jvm.Cond.laysFinal "ReportBlocksModel" "ReportBlocksModel" "track" "[I") ∈ GB := gb_t (List.mem_of_getElem? (i := 689) rfl) rfl
set_option maxRecDepth 100000 in
theorem wy_X8_x : (Jvm.Cond.laysFinal "ReportBlocksModel" "ReportBlocksModel" "x" "[I") ∈ GB := gb_t (List.mem_of_getElem? (i := 691) rfl) rfl
set_option maxRecDepth 100000 in
theorem wy_X8_y : (Jvm.Cond.laysFinal "ReportBlocksModel" "ReportBlocksModel" "y" "[I") ∈ GB := gb_t (List.mem_of_getElem? (i := 693) rfl) rfl
set_option maxRecDepth 100000 in
theorem wy_X8_speedX : (Jvm.Cond.laysFinal "ReportBlocksModel" "ReportBlocksModel" "speedX" "[I") ∈ GB := gb_t (List.mem_of_getElem? (i := 695) rfl) rfl
set_option maxRecDepth 100000 in
theorem wy_X8_speedY : (Jvm.Cond.laysFinal "ReportBlocksModel" "ReportBlocksModel" "speedY" "[I") ∈ GB := gb_t (List.mem_of_getElem? (i := 697) rfl) rfl
set_option maxRecDepth 100000 in
theorem wy_X8_age : (Jvm.Cond.laysFinal "ReportBlocksModel" "ReportBlocksModel" "age" "[I") ∈ GB := gb_t (List.mem_of_getElem? (i := 699) rfl) rfl
set_option maxRecDepth 100000 in
theorem wy_X8_hits : (Jvm.Cond.laysFinal "ReportBlocksModel" "ReportBlocksModel" "hits" "[I") ∈ GB := gb_t (List.mem_of_getElem? (i := 701) rfl) rfl
set_option maxRecDepth 100000 in
theorem wy_X8_lastX : (Jvm.Cond.laysFinal "ReportBlocksModel" "ReportBlocksModel" "lastX" "[I") ∈ GB := gb_t (List.mem_of_getElem? (i := 703) rfl) rfl
set_option maxRecDepth 100000 in
theorem wy_X8_lastY : (Jvm.Cond.laysFinal "ReportBlocksModel" "ReportBlocksModel" "lastY" "[I") ∈ GB := gb_t (List.mem_of_getElem? (i := 705) rfl) rfl
set_option maxRecDepth 100000 in
theorem wy_X8_lastTick : (Jvm.Cond.laysFinal "ReportBlocksModel" "ReportBlocksModel" "lastTick" "[I") ∈ GB := gb_t (List.mem_of_getElem? (i := 707) rfl) rfl
set_option maxRecDepth 100000 in
theorem wy_X8_lost : (Jvm.Cond.lays "ReportBlocksModel" "ReportBlocksModel" "lost" "I") ∈ GB := gb_t (List.mem_of_getElem? (i := 709) rfl) rfl
set_option maxRecDepth 100000 in
theorem wy_X8_dropped : (Jvm.Cond.lays "ReportBlocksModel" "ReportBlocksModel" "dropped" "I") ∈ GB := gb_t (List.mem_of_getElem? (i := 711) rfl) rfl
set_option maxRecDepth 100000 in
theorem wy_X8_ticks : (Jvm.Cond.lays "ReportBlocksModel" "ReportBlocksModel" "ticks" "I") ∈ GB := gb_t (List.mem_of_getElem? (i := 713) rfl) rfl
set_option maxRecDepth 100000 in
theorem wy_X8_blocks : (Jvm.Cond.lays "ReportBlocksModel" "ReportBlocksModel" "blocks" "I") ∈ GB := gb_t (List.mem_of_getElem? (i := 715) rfl) rfl
set_option maxRecDepth 100000 in
theorem wy_X8_bitsAt : (Jvm.Cond.lays "ReportBlocksModel" "ReportBlocksModel" "bitsAt" "I") ∈ GB := gb_t (List.mem_of_getElem? (i := 717) rfl) rfl
set_option maxRecDepth 100000 in
theorem wy_X8_bitBytes : (Jvm.Cond.lays "ReportBlocksModel" "ReportBlocksModel" "bitBytes" "I") ∈ GB := gb_t (List.mem_of_getElem? (i := 719) rfl) rfl
set_option maxRecDepth 100000 in
theorem wy_X8_hasPlace : (Jvm.Cond.laysFinal "ReportBlocksModel" "ReportBlocksModel" "hasPlace" "[Z") ∈ GB := gb_t (List.mem_of_getElem? (i := 721) rfl) rfl
set_option maxRecDepth 100000 in
theorem wr_boolean : (Jvm.Cond.arrayClass Jvm.ClassFile.FieldType.boolean) ∈ GB := gb_t (List.mem_of_getElem? (i := 724) rfl) rfl
set_option maxRecDepth 100000 in
theorem wl_L_17 : (Jvm.Cond.methodLink "ReportBlocksLaw" (17 : Nat) ({ cls := "ReportBlocksModel", name := "category", desc := "(I)I" } : Jvm.MethodName)) ∈ GB := gb_t (List.mem_of_getElem? (i := 725) rfl) rfl
set_option maxRecDepth 100000 in
theorem wi_X8_category : (Jvm.Cond.instanceMethod ({ cls := "ReportBlocksModel", name := "category", desc := "(I)I" } : Jvm.MethodName)) ∈ GB := gb_t (List.mem_of_getElem? (i := 726) rfl) rfl
set_option maxRecDepth 100000 in
theorem wv_X8_category : (Jvm.Cond.selects "ReportBlocksModel" ({ cls := "ReportBlocksModel", name := "category", desc := "(I)I" } : Jvm.MethodName) ({ cls := "ReportBlocksModel", name := "category", desc := "(I)I" } : Jvm.MethodName)) ∈ GB := gb_t (List.mem_of_getElem? (i := 727) rfl) rfl
set_option maxRecDepth 100000 in
theorem wc_X8_category : Cond.code yX8_category cX8_category 3 (Option.some Jvm.ClassFile.FieldType.int) ∈ GB := gb_t (List.mem_of_getElem? (i := 728) rfl) rfl
set_option maxRecDepth 100000 in
theorem wl_X8_105 : (Jvm.Cond.methodLink "ReportBlocksModel" (105 : Nat) ({ cls := "ReportBlocksModel", name := "in", desc := "(III)Z" } : Jvm.MethodName)) ∈ GB := gb_t (List.mem_of_getElem? (i := 729) rfl) rfl
set_option maxRecDepth 100000 in
theorem wt_X8_in : (Jvm.Cond.static ({ cls := "ReportBlocksModel", name := "in", desc := "(III)Z" } : Jvm.MethodName)) ∈ GB := gb_t (List.mem_of_getElem? (i := 730) rfl) rfl
set_option maxRecDepth 100000 in
theorem wc_X8_in : Cond.code yX8_in cX8_in 3 (Option.some Jvm.ClassFile.FieldType.boolean) ∈ GB := gb_t (List.mem_of_getElem? (i := 731) rfl) rfl
set_option maxRecDepth 100000 in
theorem wl_X8_109 : (Jvm.Cond.methodLink "ReportBlocksModel" (109 : Nat) ({ cls := "ReportBlocksModel", name := "find", desc := "(I)I" } : Jvm.MethodName)) ∈ GB := gb_t (List.mem_of_getElem? (i := 732) rfl) rfl
set_option maxRecDepth 100000 in
theorem wi_X8_find : (Jvm.Cond.instanceMethod ({ cls := "ReportBlocksModel", name := "find", desc := "(I)I" } : Jvm.MethodName)) ∈ GB := gb_t (List.mem_of_getElem? (i := 734) rfl) rfl
set_option maxRecDepth 100000 in
theorem wc_X8_find : Cond.code yX8_find cX8_find 3 (Option.some Jvm.ClassFile.FieldType.int) ∈ GB := gb_t (List.mem_of_getElem? (i := 735) rfl) rfl
set_option maxRecDepth 100000 in
theorem wl_X8_113 : (Jvm.Cond.methodLink "ReportBlocksModel" (113 : Nat) ({ cls := "ReportBlocksModel", name := "becomes", desc := "(IIII)V" } : Jvm.MethodName)) ∈ GB := gb_t (List.mem_of_getElem? (i := 736) rfl) rfl
set_option maxRecDepth 100000 in
theorem wi_X8_becomes : (Jvm.Cond.instanceMethod ({ cls := "ReportBlocksModel", name := "becomes", desc := "(IIII)V" } : Jvm.MethodName)) ∈ GB := gb_t (List.mem_of_getElem? (i := 738) rfl) rfl
set_option maxRecDepth 100000 in
theorem wc_X8_becomes : Cond.code yX8_becomes cX8_becomes 6 (Option.none : Option Jvm.ClassFile.FieldType) ∈ GB := gb_t (List.mem_of_getElem? (i := 739) rfl) rfl
set_option maxRecDepth 100000 in
theorem wl_L_22 : (Jvm.Cond.methodLink "ReportBlocksLaw" (22 : Nat) ({ cls := "ReportBlocksModel", name := "item", desc := "(IIII)I" } : Jvm.MethodName)) ∈ GB := gb_t (List.mem_of_getElem? (i := 740) rfl) rfl
set_option maxRecDepth 100000 in
theorem wi_X8_item : (Jvm.Cond.instanceMethod ({ cls := "ReportBlocksModel", name := "item", desc := "(IIII)I" } : Jvm.MethodName)) ∈ GB := gb_t (List.mem_of_getElem? (i := 741) rfl) rfl
set_option maxRecDepth 100000 in
theorem wv_X8_item : (Jvm.Cond.selects "ReportBlocksModel" ({ cls := "ReportBlocksModel", name := "item", desc := "(IIII)I" } : Jvm.MethodName) ({ cls := "ReportBlocksModel", name := "item", desc := "(IIII)I" } : Jvm.MethodName)) ∈ GB := gb_t (List.mem_of_getElem? (i := 742) rfl) rfl
set_option maxRecDepth 100000 in
theorem wc_X8_item : Cond.code yX8_item cX8_item 7 (Option.some Jvm.ClassFile.FieldType.int) ∈ GB := gb_t (List.mem_of_getElem? (i := 743) rfl) rfl
set_option maxRecDepth 100000 in
theorem wl_X8_120 : (Jvm.Cond.methodLink "ReportBlocksModel" (120 : Nat) ({ cls := "ReportBlocksModel", name := "isCategory", desc := "(I)Z" } : Jvm.MethodName)) ∈ GB := gb_t (List.mem_of_getElem? (i := 744) rfl) rfl
set_option maxRecDepth 100000 in
theorem wi_X8_isCategory : (Jvm.Cond.instanceMethod ({ cls := "ReportBlocksModel", name := "isCategory", desc := "(I)Z" } : Jvm.MethodName)) ∈ GB := gb_t (List.mem_of_getElem? (i := 746) rfl) rfl
set_option maxRecDepth 100000 in
theorem wc_X8_isCategory : Cond.code yX8_isCategory cX8_isCategory 2 (Option.some Jvm.ClassFile.FieldType.boolean) ∈ GB := gb_t (List.mem_of_getElem? (i := 747) rfl) rfl
set_option maxRecDepth 100000 in
theorem wl_X8_124 : (Jvm.Cond.methodLink "ReportBlocksModel" (124 : Nat) ({ cls := "ReportBlocksModel", name := "isPlace", desc := "(I)Z" } : Jvm.MethodName)) ∈ GB := gb_t (List.mem_of_getElem? (i := 748) rfl) rfl
set_option maxRecDepth 100000 in
theorem wt_X8_isPlace : (Jvm.Cond.static ({ cls := "ReportBlocksModel", name := "isPlace", desc := "(I)Z" } : Jvm.MethodName)) ∈ GB := gb_t (List.mem_of_getElem? (i := 749) rfl) rfl
set_option maxRecDepth 100000 in
theorem wc_X8_isPlace : Cond.code yX8_isPlace cX8_isPlace 1 (Option.some Jvm.ClassFile.FieldType.boolean) ∈ GB := gb_t (List.mem_of_getElem? (i := 750) rfl) rfl
set_option maxRecDepth 100000 in
theorem wl_X8_127 : (Jvm.Cond.methodLink "ReportBlocksModel" (127 : Nat) ({ cls := "ReportBlocksModel", name := "isInUse", desc := "(I)Z" } : Jvm.MethodName)) ∈ GB := gb_t (List.mem_of_getElem? (i := 751) rfl) rfl
set_option maxRecDepth 100000 in
theorem wi_X8_isInUse : (Jvm.Cond.instanceMethod ({ cls := "ReportBlocksModel", name := "isInUse", desc := "(I)Z" } : Jvm.MethodName)) ∈ GB := gb_t (List.mem_of_getElem? (i := 753) rfl) rfl
set_option maxRecDepth 100000 in
theorem wc_X8_isInUse : Cond.code yX8_isInUse cX8_isInUse 2 (Option.some Jvm.ClassFile.FieldType.boolean) ∈ GB := gb_t (List.mem_of_getElem? (i := 754) rfl) rfl
set_option maxRecDepth 100000 in
theorem wl_L_26 : (Jvm.Cond.methodLink "ReportBlocksLaw" (26 : Nat) ({ cls := "ReportBlocksModel", name := "part", desc := "(IIII)I" } : Jvm.MethodName)) ∈ GB := gb_t (List.mem_of_getElem? (i := 755) rfl) rfl
set_option maxRecDepth 100000 in
theorem wi_X8_part : (Jvm.Cond.instanceMethod ({ cls := "ReportBlocksModel", name := "part", desc := "(IIII)I" } : Jvm.MethodName)) ∈ GB := gb_t (List.mem_of_getElem? (i := 756) rfl) rfl
set_option maxRecDepth 100000 in
theorem wv_X8_part : (Jvm.Cond.selects "ReportBlocksModel" ({ cls := "ReportBlocksModel", name := "part", desc := "(IIII)I" } : Jvm.MethodName) ({ cls := "ReportBlocksModel", name := "part", desc := "(IIII)I" } : Jvm.MethodName)) ∈ GB := gb_t (List.mem_of_getElem? (i := 757) rfl) rfl
set_option maxRecDepth 100000 in
theorem wc_X8_part : Cond.code yX8_part cX8_part 6 (Option.some Jvm.ClassFile.FieldType.int) ∈ GB := gb_t (List.mem_of_getElem? (i := 758) rfl) rfl
set_option maxRecDepth 100000 in
theorem wl_L_31 : (Jvm.Cond.methodLink "ReportBlocksLaw" (31 : Nat) ({ cls := "ReportBlocksModel", name := "tells", desc := "(III)I" } : Jvm.MethodName)) ∈ GB := gb_t (List.mem_of_getElem? (i := 759) rfl) rfl
set_option maxRecDepth 100000 in
theorem wi_X8_tells : (Jvm.Cond.instanceMethod ({ cls := "ReportBlocksModel", name := "tells", desc := "(III)I" } : Jvm.MethodName)) ∈ GB := gb_t (List.mem_of_getElem? (i := 760) rfl) rfl
set_option maxRecDepth 100000 in
theorem wv_X8_tells : (Jvm.Cond.selects "ReportBlocksModel" ({ cls := "ReportBlocksModel", name := "tells", desc := "(III)I" } : Jvm.MethodName) ({ cls := "ReportBlocksModel", name := "tells", desc := "(III)I" } : Jvm.MethodName)) ∈ GB := gb_t (List.mem_of_getElem? (i := 761) rfl) rfl
set_option maxRecDepth 100000 in
theorem wc_X8_tells : Cond.code yX8_tells cX8_tells 4 (Option.some Jvm.ClassFile.FieldType.int) ∈ GB := gb_t (List.mem_of_getElem? (i := 762) rfl) rfl
set_option maxRecDepth 100000 in
theorem wl_X8_130 : (Jvm.Cond.methodLink "ReportBlocksModel" (130 : Nat) ({ cls := "ReportBlocksModel", name := "isFixed", desc := "(III)Z" } : Jvm.MethodName)) ∈ GB := gb_t (List.mem_of_getElem? (i := 763) rfl) rfl
set_option maxRecDepth 100000 in
theorem wi_X8_isFixed : (Jvm.Cond.instanceMethod ({ cls := "ReportBlocksModel", name := "isFixed", desc := "(III)Z" } : Jvm.MethodName)) ∈ GB := gb_t (List.mem_of_getElem? (i := 765) rfl) rfl
set_option maxRecDepth 100000 in
theorem wc_X8_isFixed : Cond.code yX8_isFixed cX8_isFixed 4 (Option.some Jvm.ClassFile.FieldType.boolean) ∈ GB := gb_t (List.mem_of_getElem? (i := 766) rfl) rfl
set_option maxRecDepth 100000 in
theorem wl_L_35 : (Jvm.Cond.methodLink "ReportBlocksLaw" (35 : Nat) ({ cls := "ReportBlocksModel", name := "table", desc := "(III)I" } : Jvm.MethodName)) ∈ GB := gb_t (List.mem_of_getElem? (i := 767) rfl) rfl
set_option maxRecDepth 100000 in
theorem wi_X8_table : (Jvm.Cond.instanceMethod ({ cls := "ReportBlocksModel", name := "table", desc := "(III)I" } : Jvm.MethodName)) ∈ GB := gb_t (List.mem_of_getElem? (i := 768) rfl) rfl
set_option maxRecDepth 100000 in
theorem wv_X8_table : (Jvm.Cond.selects "ReportBlocksModel" ({ cls := "ReportBlocksModel", name := "table", desc := "(III)I" } : Jvm.MethodName) ({ cls := "ReportBlocksModel", name := "table", desc := "(III)I" } : Jvm.MethodName)) ∈ GB := gb_t (List.mem_of_getElem? (i := 769) rfl) rfl
set_option maxRecDepth 100000 in
theorem wc_X8_table : Cond.code yX8_table cX8_table 5 (Option.some Jvm.ClassFile.FieldType.int) ∈ GB := gb_t (List.mem_of_getElem? (i := 770) rfl) rfl
set_option maxRecDepth 100000 in
theorem wl_L_42 : (Jvm.Cond.methodLink "ReportBlocksLaw" (42 : Nat) ({ cls := "ReportBlocksModel", name := "feed", desc := "(JI)I" } : Jvm.MethodName)) ∈ GB := gb_t (List.mem_of_getElem? (i := 771) rfl) rfl
set_option maxRecDepth 100000 in
theorem wi_X8_feed : (Jvm.Cond.instanceMethod ({ cls := "ReportBlocksModel", name := "feed", desc := "(JI)I" } : Jvm.MethodName)) ∈ GB := gb_t (List.mem_of_getElem? (i := 772) rfl) rfl
set_option maxRecDepth 100000 in
theorem wv_X8_feed : (Jvm.Cond.selects "ReportBlocksModel" ({ cls := "ReportBlocksModel", name := "feed", desc := "(JI)I" } : Jvm.MethodName) ({ cls := "ReportBlocksModel", name := "feed", desc := "(JI)I" } : Jvm.MethodName)) ∈ GB := gb_t (List.mem_of_getElem? (i := 773) rfl) rfl
set_option maxRecDepth 100000 in
theorem wc_X8_feed : Cond.code yX8_feed cX8_feed 5 (Option.some Jvm.ClassFile.FieldType.int) ∈ GB := gb_t (List.mem_of_getElem? (i := 774) rfl) rfl
set_option maxRecDepth 100000 in
theorem wl_L_47 : (Jvm.Cond.methodLink "ReportBlocksLaw" (47 : Nat) ({ cls := "ReportBlocksModel", name := "tear", desc := "()I" } : Jvm.MethodName)) ∈ GB := gb_t (List.mem_of_getElem? (i := 775) rfl) rfl
set_option maxRecDepth 100000 in
theorem wi_X8_tear : (Jvm.Cond.instanceMethod ({ cls := "ReportBlocksModel", name := "tear", desc := "()I" } : Jvm.MethodName)) ∈ GB := gb_t (List.mem_of_getElem? (i := 776) rfl) rfl
set_option maxRecDepth 100000 in
theorem wv_X8_tear : (Jvm.Cond.selects "ReportBlocksModel" ({ cls := "ReportBlocksModel", name := "tear", desc := "()I" } : Jvm.MethodName) ({ cls := "ReportBlocksModel", name := "tear", desc := "()I" } : Jvm.MethodName)) ∈ GB := gb_t (List.mem_of_getElem? (i := 777) rfl) rfl
set_option maxRecDepth 100000 in
theorem wc_X8_tear : Cond.code yX8_tear cX8_tear 2 (Option.some Jvm.ClassFile.FieldType.int) ∈ GB := gb_t (List.mem_of_getElem? (i := 778) rfl) rfl
set_option maxRecDepth 100000 in
theorem wl_L_96 : (Jvm.Cond.methodLink "ReportBlocksLaw" (96 : Nat) ({ cls := "ReportBlocksModel", name := "tape", desc := "(I)I" } : Jvm.MethodName)) ∈ GB := gb_t (List.mem_of_getElem? (i := 779) rfl) rfl
set_option maxRecDepth 100000 in
theorem wi_X8_tape : (Jvm.Cond.instanceMethod ({ cls := "ReportBlocksModel", name := "tape", desc := "(I)I" } : Jvm.MethodName)) ∈ GB := gb_t (List.mem_of_getElem? (i := 780) rfl) rfl
set_option maxRecDepth 100000 in
theorem wv_X8_tape : (Jvm.Cond.selects "ReportBlocksModel" ({ cls := "ReportBlocksModel", name := "tape", desc := "(I)I" } : Jvm.MethodName) ({ cls := "ReportBlocksModel", name := "tape", desc := "(I)I" } : Jvm.MethodName)) ∈ GB := gb_t (List.mem_of_getElem? (i := 781) rfl) rfl
set_option maxRecDepth 100000 in
theorem wc_X8_tape : Cond.code yX8_tape cX8_tape 2 (Option.some Jvm.ClassFile.FieldType.int) ∈ GB := gb_t (List.mem_of_getElem? (i := 782) rfl) rfl
set_option maxRecDepth 100000 in
theorem wl_L_51 : (Jvm.Cond.methodLink "ReportBlocksLaw" (51 : Nat) ({ cls := "ReportBlocksModel", name := "read", desc := "()I" } : Jvm.MethodName)) ∈ GB := gb_t (List.mem_of_getElem? (i := 783) rfl) rfl
set_option maxRecDepth 100000 in
theorem wi_X8_read : (Jvm.Cond.instanceMethod ({ cls := "ReportBlocksModel", name := "read", desc := "()I" } : Jvm.MethodName)) ∈ GB := gb_t (List.mem_of_getElem? (i := 784) rfl) rfl
set_option maxRecDepth 100000 in
theorem wv_X8_read : (Jvm.Cond.selects "ReportBlocksModel" ({ cls := "ReportBlocksModel", name := "read", desc := "()I" } : Jvm.MethodName) ({ cls := "ReportBlocksModel", name := "read", desc := "()I" } : Jvm.MethodName)) ∈ GB := gb_t (List.mem_of_getElem? (i := 785) rfl) rfl
set_option maxRecDepth 100000 in
theorem wc_X8_read : Cond.code yX8_read cX8_read 3 (Option.some Jvm.ClassFile.FieldType.int) ∈ GB := gb_t (List.mem_of_getElem? (i := 786) rfl) rfl
set_option maxRecDepth 100000 in
theorem wl_X8_187 : (Jvm.Cond.methodLink "ReportBlocksModel" (187 : Nat) ({ cls := "ReportBlocksModel", name := "readBlock", desc := "()I" } : Jvm.MethodName)) ∈ GB := gb_t (List.mem_of_getElem? (i := 787) rfl) rfl
set_option maxRecDepth 100000 in
theorem wi_X8_readBlock : (Jvm.Cond.instanceMethod ({ cls := "ReportBlocksModel", name := "readBlock", desc := "()I" } : Jvm.MethodName)) ∈ GB := gb_t (List.mem_of_getElem? (i := 789) rfl) rfl
set_option maxRecDepth 100000 in
theorem wc_X8_readBlock : Cond.code yX8_readBlock cX8_readBlock 3 (Option.some Jvm.ClassFile.FieldType.int) ∈ GB := gb_t (List.mem_of_getElem? (i := 790) rfl) rfl
set_option maxRecDepth 100000 in
theorem wl_X8_148 : (Jvm.Cond.methodLink "ReportBlocksModel" (148 : Nat) ({ cls := "ReportBlocksModel", name := "fails", desc := "(II)V" } : Jvm.MethodName)) ∈ GB := gb_t (List.mem_of_getElem? (i := 791) rfl) rfl
set_option maxRecDepth 100000 in
theorem wi_X8_fails : (Jvm.Cond.instanceMethod ({ cls := "ReportBlocksModel", name := "fails", desc := "(II)V" } : Jvm.MethodName)) ∈ GB := gb_t (List.mem_of_getElem? (i := 793) rfl) rfl
set_option maxRecDepth 100000 in
theorem wc_X8_fails : Cond.code yX8_fails cX8_fails 3 (Option.none : Option Jvm.ClassFile.FieldType) ∈ GB := gb_t (List.mem_of_getElem? (i := 794) rfl) rfl
set_option maxRecDepth 100000 in
theorem wl_X8_184 : (Jvm.Cond.methodLink "ReportBlocksModel" (184 : Nat) ({ cls := "ReportBlocksModel", name := "readRecord", desc := "(I)V" } : Jvm.MethodName)) ∈ GB := gb_t (List.mem_of_getElem? (i := 795) rfl) rfl
set_option maxRecDepth 100000 in
theorem wi_X8_readRecord : (Jvm.Cond.instanceMethod ({ cls := "ReportBlocksModel", name := "readRecord", desc := "(I)V" } : Jvm.MethodName)) ∈ GB := gb_t (List.mem_of_getElem? (i := 797) rfl) rfl
set_option maxRecDepth 100000 in
theorem wc_X8_readRecord : Cond.code yX8_readRecord cX8_readRecord 6 (Option.none : Option Jvm.ClassFile.FieldType) ∈ GB := gb_t (List.mem_of_getElem? (i := 798) rfl) rfl
set_option maxRecDepth 100000 in
theorem wl_X8_169 : (Jvm.Cond.methodLink "ReportBlocksModel" (169 : Nat) ({ cls := "ReportBlocksModel", name := "readBits", desc := "(I)V" } : Jvm.MethodName)) ∈ GB := gb_t (List.mem_of_getElem? (i := 799) rfl) rfl
set_option maxRecDepth 100000 in
theorem wi_X8_readBits : (Jvm.Cond.instanceMethod ({ cls := "ReportBlocksModel", name := "readBits", desc := "(I)V" } : Jvm.MethodName)) ∈ GB := gb_t (List.mem_of_getElem? (i := 801) rfl) rfl
set_option maxRecDepth 100000 in
theorem wc_X8_readBits : Cond.code yX8_readBits cX8_readBits 6 (Option.none : Option Jvm.ClassFile.FieldType) ∈ GB := gb_t (List.mem_of_getElem? (i := 802) rfl) rfl
set_option maxRecDepth 100000 in
theorem wl_X8_162 : (Jvm.Cond.methodLink "ReportBlocksModel" (162 : Nat) ({ cls := "ReportBlocksModel", name := "takes", desc := "()I" } : Jvm.MethodName)) ∈ GB := gb_t (List.mem_of_getElem? (i := 803) rfl) rfl
set_option maxRecDepth 100000 in
theorem wi_X8_takes : (Jvm.Cond.instanceMethod ({ cls := "ReportBlocksModel", name := "takes", desc := "()I" } : Jvm.MethodName)) ∈ GB := gb_t (List.mem_of_getElem? (i := 805) rfl) rfl
set_option maxRecDepth 100000 in
theorem wc_X8_takes : Cond.code yX8_takes cX8_takes 1 (Option.some Jvm.ClassFile.FieldType.int) ∈ GB := gb_t (List.mem_of_getElem? (i := 806) rfl) rfl
set_option maxRecDepth 100000 in
theorem wl_X8_152 : (Jvm.Cond.methodLink "ReportBlocksModel" (152 : Nat) ({ cls := "ReportBlocksModel", name := "needs", desc := "(I)V" } : Jvm.MethodName)) ∈ GB := gb_t (List.mem_of_getElem? (i := 807) rfl) rfl
set_option maxRecDepth 100000 in
theorem wi_X8_needs : (Jvm.Cond.instanceMethod ({ cls := "ReportBlocksModel", name := "needs", desc := "(I)V" } : Jvm.MethodName)) ∈ GB := gb_t (List.mem_of_getElem? (i := 809) rfl) rfl
set_option maxRecDepth 100000 in
theorem wc_X8_needs : Cond.code yX8_needs cX8_needs 2 (Option.none : Option Jvm.ClassFile.FieldType) ∈ GB := gb_t (List.mem_of_getElem? (i := 810) rfl) rfl
set_option maxRecDepth 100000 in
theorem wl_X8_166 : (Jvm.Cond.methodLink "ReportBlocksModel" (166 : Nat) ({ cls := "ReportBlocksModel", name := "isEmptyByte", desc := "(I)Z" } : Jvm.MethodName)) ∈ GB := gb_t (List.mem_of_getElem? (i := 811) rfl) rfl
set_option maxRecDepth 100000 in
theorem wi_X8_isEmptyByte : (Jvm.Cond.instanceMethod ({ cls := "ReportBlocksModel", name := "isEmptyByte", desc := "(I)Z" } : Jvm.MethodName)) ∈ GB := gb_t (List.mem_of_getElem? (i := 813) rfl) rfl
set_option maxRecDepth 100000 in
theorem wc_X8_isEmptyByte : Cond.code yX8_isEmptyByte cX8_isEmptyByte 2 (Option.some Jvm.ClassFile.FieldType.boolean) ∈ GB := gb_t (List.mem_of_getElem? (i := 814) rfl) rfl
set_option maxRecDepth 100000 in
theorem wl_X8_181 : (Jvm.Cond.methodLink "ReportBlocksModel" (181 : Nat) ({ cls := "ReportBlocksModel", name := "readItem", desc := "(II)V" } : Jvm.MethodName)) ∈ GB := gb_t (List.mem_of_getElem? (i := 815) rfl) rfl
set_option maxRecDepth 100000 in
theorem wi_X8_readItem : (Jvm.Cond.instanceMethod ({ cls := "ReportBlocksModel", name := "readItem", desc := "(II)V" } : Jvm.MethodName)) ∈ GB := gb_t (List.mem_of_getElem? (i := 817) rfl) rfl
set_option maxRecDepth 100000 in
theorem wc_X8_readItem : Cond.code yX8_readItem cX8_readItem 5 (Option.none : Option Jvm.ClassFile.FieldType) ∈ GB := gb_t (List.mem_of_getElem? (i := 818) rfl) rfl
set_option maxRecDepth 100000 in
theorem wl_X8_172 : (Jvm.Cond.methodLink "ReportBlocksModel" (172 : Nat) ({ cls := "ReportBlocksModel", name := "readGoing", desc := "()V" } : Jvm.MethodName)) ∈ GB := gb_t (List.mem_of_getElem? (i := 819) rfl) rfl
set_option maxRecDepth 100000 in
theorem wi_X8_readGoing : (Jvm.Cond.instanceMethod ({ cls := "ReportBlocksModel", name := "readGoing", desc := "()V" } : Jvm.MethodName)) ∈ GB := gb_t (List.mem_of_getElem? (i := 821) rfl) rfl
set_option maxRecDepth 100000 in
theorem wc_X8_readGoing : Cond.code yX8_readGoing cX8_readGoing 3 (Option.none : Option Jvm.ClassFile.FieldType) ∈ GB := gb_t (List.mem_of_getElem? (i := 822) rfl) rfl
set_option maxRecDepth 100000 in
theorem wl_X8_175 : (Jvm.Cond.methodLink "ReportBlocksModel" (175 : Nat) ({ cls := "ReportBlocksModel", name := "readMade", desc := "(II)V" } : Jvm.MethodName)) ∈ GB := gb_t (List.mem_of_getElem? (i := 823) rfl) rfl
set_option maxRecDepth 100000 in
theorem wi_X8_readMade : (Jvm.Cond.instanceMethod ({ cls := "ReportBlocksModel", name := "readMade", desc := "(II)V" } : Jvm.MethodName)) ∈ GB := gb_t (List.mem_of_getElem? (i := 825) rfl) rfl
set_option maxRecDepth 100000 in
theorem wc_X8_readMade : Cond.code yX8_readMade cX8_readMade 4 (Option.none : Option Jvm.ClassFile.FieldType) ∈ GB := gb_t (List.mem_of_getElem? (i := 826) rfl) rfl
set_option maxRecDepth 100000 in
theorem wl_L_55 : (Jvm.Cond.methodLink "ReportBlocksLaw" (55 : Nat) ({ cls := "ReportBlocksModel", name := "fault", desc := "()I" } : Jvm.MethodName)) ∈ GB := gb_t (List.mem_of_getElem? (i := 827) rfl) rfl
set_option maxRecDepth 100000 in
theorem wi_X8_fault : (Jvm.Cond.instanceMethod ({ cls := "ReportBlocksModel", name := "fault", desc := "()I" } : Jvm.MethodName)) ∈ GB := gb_t (List.mem_of_getElem? (i := 828) rfl) rfl
set_option maxRecDepth 100000 in
theorem wv_X8_fault : (Jvm.Cond.selects "ReportBlocksModel" ({ cls := "ReportBlocksModel", name := "fault", desc := "()I" } : Jvm.MethodName) ({ cls := "ReportBlocksModel", name := "fault", desc := "()I" } : Jvm.MethodName)) ∈ GB := gb_t (List.mem_of_getElem? (i := 829) rfl) rfl
set_option maxRecDepth 100000 in
theorem wc_X8_fault : Cond.code yX8_fault cX8_fault 1 (Option.some Jvm.ClassFile.FieldType.int) ∈ GB := gb_t (List.mem_of_getElem? (i := 830) rfl) rfl
set_option maxRecDepth 100000 in
theorem wl_L_59 : (Jvm.Cond.methodLink "ReportBlocksLaw" (59 : Nat) ({ cls := "ReportBlocksModel", name := "records", desc := "(I)I" } : Jvm.MethodName)) ∈ GB := gb_t (List.mem_of_getElem? (i := 831) rfl) rfl
set_option maxRecDepth 100000 in
theorem wi_X8_records : (Jvm.Cond.instanceMethod ({ cls := "ReportBlocksModel", name := "records", desc := "(I)I" } : Jvm.MethodName)) ∈ GB := gb_t (List.mem_of_getElem? (i := 832) rfl) rfl
set_option maxRecDepth 100000 in
theorem wv_X8_records : (Jvm.Cond.selects "ReportBlocksModel" ({ cls := "ReportBlocksModel", name := "records", desc := "(I)I" } : Jvm.MethodName) ({ cls := "ReportBlocksModel", name := "records", desc := "(I)I" } : Jvm.MethodName)) ∈ GB := gb_t (List.mem_of_getElem? (i := 833) rfl) rfl
set_option maxRecDepth 100000 in
theorem wc_X8_records : Cond.code yX8_records cX8_records 2 (Option.some Jvm.ClassFile.FieldType.int) ∈ GB := gb_t (List.mem_of_getElem? (i := 834) rfl) rfl
set_option maxRecDepth 100000 in
theorem wl_L_63 : (Jvm.Cond.methodLink "ReportBlocksLaw" (63 : Nat) ({ cls := "ReportBlocksModel", name := "has", desc := "(III)I" } : Jvm.MethodName)) ∈ GB := gb_t (List.mem_of_getElem? (i := 835) rfl) rfl
set_option maxRecDepth 100000 in
theorem wi_X8_has : (Jvm.Cond.instanceMethod ({ cls := "ReportBlocksModel", name := "has", desc := "(III)I" } : Jvm.MethodName)) ∈ GB := gb_t (List.mem_of_getElem? (i := 836) rfl) rfl
set_option maxRecDepth 100000 in
theorem wv_X8_has : (Jvm.Cond.selects "ReportBlocksModel" ({ cls := "ReportBlocksModel", name := "has", desc := "(III)I" } : Jvm.MethodName) ({ cls := "ReportBlocksModel", name := "has", desc := "(III)I" } : Jvm.MethodName)) ∈ GB := gb_t (List.mem_of_getElem? (i := 837) rfl) rfl
set_option maxRecDepth 100000 in
theorem wc_X8_has : Cond.code yX8_has cX8_has 5 (Option.some Jvm.ClassFile.FieldType.int) ∈ GB := gb_t (List.mem_of_getElem? (i := 838) rfl) rfl
set_option maxRecDepth 100000 in
theorem wl_X8_196 : (Jvm.Cond.methodLink "ReportBlocksModel" (196 : Nat) ({ cls := "ReportBlocksModel", name := "isRecord", desc := "(I)Z" } : Jvm.MethodName)) ∈ GB := gb_t (List.mem_of_getElem? (i := 839) rfl) rfl
set_option maxRecDepth 100000 in
theorem wi_X8_isRecord : (Jvm.Cond.instanceMethod ({ cls := "ReportBlocksModel", name := "isRecord", desc := "(I)Z" } : Jvm.MethodName)) ∈ GB := gb_t (List.mem_of_getElem? (i := 841) rfl) rfl
set_option maxRecDepth 100000 in
theorem wc_X8_isRecord : Cond.code yX8_isRecord cX8_isRecord 2 (Option.some Jvm.ClassFile.FieldType.boolean) ∈ GB := gb_t (List.mem_of_getElem? (i := 842) rfl) rfl
set_option maxRecDepth 100000 in
theorem wl_L_67 : (Jvm.Cond.methodLink "ReportBlocksLaw" (67 : Nat) ({ cls := "ReportBlocksModel", name := "at", desc := "(III)I" } : Jvm.MethodName)) ∈ GB := gb_t (List.mem_of_getElem? (i := 843) rfl) rfl
set_option maxRecDepth 100000 in
theorem wi_X8_at : (Jvm.Cond.instanceMethod ({ cls := "ReportBlocksModel", name := "at", desc := "(III)I" } : Jvm.MethodName)) ∈ GB := gb_t (List.mem_of_getElem? (i := 844) rfl) rfl
set_option maxRecDepth 100000 in
theorem wv_X8_at : (Jvm.Cond.selects "ReportBlocksModel" ({ cls := "ReportBlocksModel", name := "at", desc := "(III)I" } : Jvm.MethodName) ({ cls := "ReportBlocksModel", name := "at", desc := "(III)I" } : Jvm.MethodName)) ∈ GB := gb_t (List.mem_of_getElem? (i := 845) rfl) rfl
set_option maxRecDepth 100000 in
theorem wc_X8_at : Cond.code yX8_at cX8_at 4 (Option.some Jvm.ClassFile.FieldType.int) ∈ GB := gb_t (List.mem_of_getElem? (i := 846) rfl) rfl
set_option maxRecDepth 100000 in
theorem wl_L_72 : (Jvm.Cond.methodLink "ReportBlocksLaw" (72 : Nat) ({ cls := "ReportBlocksModel", name := "number", desc := "(III)J" } : Jvm.MethodName)) ∈ GB := gb_t (List.mem_of_getElem? (i := 847) rfl) rfl
set_option maxRecDepth 100000 in
theorem wi_X8_number : (Jvm.Cond.instanceMethod ({ cls := "ReportBlocksModel", name := "number", desc := "(III)J" } : Jvm.MethodName)) ∈ GB := gb_t (List.mem_of_getElem? (i := 848) rfl) rfl
set_option maxRecDepth 100000 in
theorem wv_X8_number : (Jvm.Cond.selects "ReportBlocksModel" ({ cls := "ReportBlocksModel", name := "number", desc := "(III)J" } : Jvm.MethodName) ({ cls := "ReportBlocksModel", name := "number", desc := "(III)J" } : Jvm.MethodName)) ∈ GB := gb_t (List.mem_of_getElem? (i := 849) rfl) rfl
set_option maxRecDepth 100000 in
theorem wc_X8_number : Cond.code yX8_number cX8_number 6 (Option.some Jvm.ClassFile.FieldType.long) ∈ GB := gb_t (List.mem_of_getElem? (i := 850) rfl) rfl
set_option maxRecDepth 100000 in
theorem wo_X8_205 : (Jvm.Cond.constantLong "ReportBlocksModel" (205 : Nat) (-1 : Int64)) ∈ GB := gb_t (List.mem_of_getElem? (i := 851) rfl) rfl
set_option maxRecDepth 100000 in
theorem wo_X8_203 : (Jvm.Cond.constantLong "ReportBlocksModel" (203 : Nat) (-9 : Int64)) ∈ GB := gb_t (List.mem_of_getElem? (i := 852) rfl) rfl
set_option maxRecDepth 100000 in
theorem wl_X8_199 : (Jvm.Cond.methodLink "ReportBlocksModel" (199 : Nat) ({ cls := "ReportBlocksModel", name := "together", desc := "(II)J" } : Jvm.MethodName)) ∈ GB := gb_t (List.mem_of_getElem? (i := 853) rfl) rfl
set_option maxRecDepth 100000 in
theorem wi_X8_together : (Jvm.Cond.instanceMethod ({ cls := "ReportBlocksModel", name := "together", desc := "(II)J" } : Jvm.MethodName)) ∈ GB := gb_t (List.mem_of_getElem? (i := 855) rfl) rfl
set_option maxRecDepth 100000 in
theorem wc_X8_together : Cond.code yX8_together cX8_together 6 (Option.some Jvm.ClassFile.FieldType.long) ∈ GB := gb_t (List.mem_of_getElem? (i := 856) rfl) rfl
set_option maxRecDepth 100000 in
theorem wl_X8_207 : (Jvm.Cond.methodLink "ReportBlocksModel" (207 : Nat) ({ cls := "ReportBlocksModel", name := "ofMade", desc := "(IIII)J" } : Jvm.MethodName)) ∈ GB := gb_t (List.mem_of_getElem? (i := 857) rfl) rfl
set_option maxRecDepth 100000 in
theorem wi_X8_ofMade : (Jvm.Cond.instanceMethod ({ cls := "ReportBlocksModel", name := "ofMade", desc := "(IIII)J" } : Jvm.MethodName)) ∈ GB := gb_t (List.mem_of_getElem? (i := 859) rfl) rfl
set_option maxRecDepth 100000 in
theorem wc_X8_ofMade : Cond.code yX8_ofMade cX8_ofMade 11 (Option.some Jvm.ClassFile.FieldType.long) ∈ GB := gb_t (List.mem_of_getElem? (i := 860) rfl) rfl
set_option maxRecDepth 100000 in
theorem wl_L_76 : (Jvm.Cond.methodLink "ReportBlocksLaw" (76 : Nat) ({ cls := "ReportBlocksModel", name := "begin", desc := "(I)I" } : Jvm.MethodName)) ∈ GB := gb_t (List.mem_of_getElem? (i := 861) rfl) rfl
set_option maxRecDepth 100000 in
theorem wi_X8_begin : (Jvm.Cond.instanceMethod ({ cls := "ReportBlocksModel", name := "begin", desc := "(I)I" } : Jvm.MethodName)) ∈ GB := gb_t (List.mem_of_getElem? (i := 862) rfl) rfl
set_option maxRecDepth 100000 in
theorem wv_X8_begin : (Jvm.Cond.selects "ReportBlocksModel" ({ cls := "ReportBlocksModel", name := "begin", desc := "(I)I" } : Jvm.MethodName) ({ cls := "ReportBlocksModel", name := "begin", desc := "(I)I" } : Jvm.MethodName)) ∈ GB := gb_t (List.mem_of_getElem? (i := 863) rfl) rfl
set_option maxRecDepth 100000 in
theorem wc_X8_begin : Cond.code yX8_begin cX8_begin 3 (Option.some Jvm.ClassFile.FieldType.int) ∈ GB := gb_t (List.mem_of_getElem? (i := 864) rfl) rfl
set_option maxRecDepth 100000 in
theorem wl_L_80 : (Jvm.Cond.methodLink "ReportBlocksLaw" (80 : Nat) ({ cls := "ReportBlocksModel", name := "set", desc := "(I)I" } : Jvm.MethodName)) ∈ GB := gb_t (List.mem_of_getElem? (i := 865) rfl) rfl
set_option maxRecDepth 100000 in
theorem wi_X8_set : (Jvm.Cond.instanceMethod ({ cls := "ReportBlocksModel", name := "set", desc := "(I)I" } : Jvm.MethodName)) ∈ GB := gb_t (List.mem_of_getElem? (i := 866) rfl) rfl
set_option maxRecDepth 100000 in
theorem wv_X8_set : (Jvm.Cond.selects "ReportBlocksModel" ({ cls := "ReportBlocksModel", name := "set", desc := "(I)I" } : Jvm.MethodName) ({ cls := "ReportBlocksModel", name := "set", desc := "(I)I" } : Jvm.MethodName)) ∈ GB := gb_t (List.mem_of_getElem? (i := 867) rfl) rfl
set_option maxRecDepth 100000 in
theorem wc_X8_set : Cond.code yX8_set cX8_set 5 (Option.some Jvm.ClassFile.FieldType.int) ∈ GB := gb_t (List.mem_of_getElem? (i := 868) rfl) rfl
set_option maxRecDepth 100000 in
theorem wl_L_84 : (Jvm.Cond.methodLink "ReportBlocksLaw" (84 : Nat) ({ cls := "ReportBlocksModel", name := "take", desc := "(I)I" } : Jvm.MethodName)) ∈ GB := gb_t (List.mem_of_getElem? (i := 869) rfl) rfl
set_option maxRecDepth 100000 in
theorem wi_X8_take : (Jvm.Cond.instanceMethod ({ cls := "ReportBlocksModel", name := "take", desc := "(I)I" } : Jvm.MethodName)) ∈ GB := gb_t (List.mem_of_getElem? (i := 870) rfl) rfl
set_option maxRecDepth 100000 in
theorem wv_X8_take : (Jvm.Cond.selects "ReportBlocksModel" ({ cls := "ReportBlocksModel", name := "take", desc := "(I)I" } : Jvm.MethodName) ({ cls := "ReportBlocksModel", name := "take", desc := "(I)I" } : Jvm.MethodName)) ∈ GB := gb_t (List.mem_of_getElem? (i := 871) rfl) rfl
set_option maxRecDepth 100000 in
theorem wc_X8_take : Cond.code yX8_take cX8_take 3 (Option.some Jvm.ClassFile.FieldType.int) ∈ GB := gb_t (List.mem_of_getElem? (i := 872) rfl) rfl
set_option maxRecDepth 100000 in
theorem wl_L_88 : (Jvm.Cond.methodLink "ReportBlocksLaw" (88 : Nat) ({ cls := "ReportBlocksModel", name := "write", desc := "()I" } : Jvm.MethodName)) ∈ GB := gb_t (List.mem_of_getElem? (i := 873) rfl) rfl
set_option maxRecDepth 100000 in
theorem wi_X8_write : (Jvm.Cond.instanceMethod ({ cls := "ReportBlocksModel", name := "write", desc := "()I" } : Jvm.MethodName)) ∈ GB := gb_t (List.mem_of_getElem? (i := 874) rfl) rfl
set_option maxRecDepth 100000 in
theorem wv_X8_write : (Jvm.Cond.selects "ReportBlocksModel" ({ cls := "ReportBlocksModel", name := "write", desc := "()I" } : Jvm.MethodName) ({ cls := "ReportBlocksModel", name := "write", desc := "()I" } : Jvm.MethodName)) ∈ GB := gb_t (List.mem_of_getElem? (i := 875) rfl) rfl
set_option maxRecDepth 100000 in
theorem wc_X8_write : Cond.code yX8_write cX8_write 7 (Option.some Jvm.ClassFile.FieldType.int) ∈ GB := gb_t (List.mem_of_getElem? (i := 876) rfl) rfl
set_option maxRecDepth 100000 in
theorem wl_X8_211 : (Jvm.Cond.methodLink "ReportBlocksModel" (211 : Nat) ({ cls := "ReportBlocksModel", name := "put", desc := "(I)V" } : Jvm.MethodName)) ∈ GB := gb_t (List.mem_of_getElem? (i := 877) rfl) rfl
set_option maxRecDepth 100000 in
theorem wi_X8_put : (Jvm.Cond.instanceMethod ({ cls := "ReportBlocksModel", name := "put", desc := "(I)V" } : Jvm.MethodName)) ∈ GB := gb_t (List.mem_of_getElem? (i := 879) rfl) rfl
set_option maxRecDepth 100000 in
theorem wc_X8_put : Cond.code yX8_put cX8_put 2 (Option.none : Option Jvm.ClassFile.FieldType) ∈ GB := gb_t (List.mem_of_getElem? (i := 880) rfl) rfl
set_option maxRecDepth 100000 in
theorem wl_L_92 : (Jvm.Cond.methodLink "ReportBlocksLaw" (92 : Nat) ({ cls := "ReportBlocksModel", name := "copy", desc := "(I)I" } : Jvm.MethodName)) ∈ GB := gb_t (List.mem_of_getElem? (i := 881) rfl) rfl
set_option maxRecDepth 100000 in
theorem wi_X8_copy : (Jvm.Cond.instanceMethod ({ cls := "ReportBlocksModel", name := "copy", desc := "(I)I" } : Jvm.MethodName)) ∈ GB := gb_t (List.mem_of_getElem? (i := 882) rfl) rfl
set_option maxRecDepth 100000 in
theorem wv_X8_copy : (Jvm.Cond.selects "ReportBlocksModel" ({ cls := "ReportBlocksModel", name := "copy", desc := "(I)I" } : Jvm.MethodName) ({ cls := "ReportBlocksModel", name := "copy", desc := "(I)I" } : Jvm.MethodName)) ∈ GB := gb_t (List.mem_of_getElem? (i := 883) rfl) rfl
set_option maxRecDepth 100000 in
theorem wc_X8_copy : Cond.code yX8_copy cX8_copy 5 (Option.some Jvm.ClassFile.FieldType.int) ∈ GB := gb_t (List.mem_of_getElem? (i := 884) rfl) rfl
set_option maxRecDepth 100000 in
theorem wl_L_100 : (Jvm.Cond.methodLink "ReportBlocksLaw" (100 : Nat) ({ cls := "ReportBlocksModel", name := "report", desc := "(I)I" } : Jvm.MethodName)) ∈ GB := gb_t (List.mem_of_getElem? (i := 885) rfl) rfl
set_option maxRecDepth 100000 in
theorem wi_X8_report : (Jvm.Cond.instanceMethod ({ cls := "ReportBlocksModel", name := "report", desc := "(I)I" } : Jvm.MethodName)) ∈ GB := gb_t (List.mem_of_getElem? (i := 886) rfl) rfl
set_option maxRecDepth 100000 in
theorem wv_X8_report : (Jvm.Cond.selects "ReportBlocksModel" ({ cls := "ReportBlocksModel", name := "report", desc := "(I)I" } : Jvm.MethodName) ({ cls := "ReportBlocksModel", name := "report", desc := "(I)I" } : Jvm.MethodName)) ∈ GB := gb_t (List.mem_of_getElem? (i := 887) rfl) rfl
set_option maxRecDepth 100000 in
theorem wc_X8_report : Cond.code yX8_report cX8_report 9 (Option.some Jvm.ClassFile.FieldType.int) ∈ GB := gb_t (List.mem_of_getElem? (i := 888) rfl) rfl
set_option maxRecDepth 100000 in
theorem wl_X8_219 : (Jvm.Cond.methodLink "ReportBlocksModel" (219 : Nat) ({ cls := "ReportBlocksModel", name := "signed", desc := "(J)I" } : Jvm.MethodName)) ∈ GB := gb_t (List.mem_of_getElem? (i := 889) rfl) rfl
set_option maxRecDepth 100000 in
theorem wt_X8_signed : (Jvm.Cond.static ({ cls := "ReportBlocksModel", name := "signed", desc := "(J)I" } : Jvm.MethodName)) ∈ GB := gb_t (List.mem_of_getElem? (i := 890) rfl) rfl
set_option maxRecDepth 100000 in
theorem wc_X8_signed : Cond.code yX8_signed cX8_signed 3 (Option.some Jvm.ClassFile.FieldType.int) ∈ GB := gb_t (List.mem_of_getElem? (i := 891) rfl) rfl
set_option maxRecDepth 100000 in
theorem wo_X8_214 : (Jvm.Cond.constant "ReportBlocksModel" (214 : Nat) (65535 : Int32)) ∈ GB := gb_t (List.mem_of_getElem? (i := 892) rfl) rfl
set_option maxRecDepth 100000 in
theorem wo_X8_215 : (Jvm.Cond.constant "ReportBlocksModel" (215 : Nat) (65536 : Int32)) ∈ GB := gb_t (List.mem_of_getElem? (i := 893) rfl) rfl
set_option maxRecDepth 100000 in
theorem wl_X8_223 : (Jvm.Cond.methodLink "ReportBlocksModel" (223 : Nat) ({ cls := "ReportBlocksModel", name := "trackOf", desc := "(I)I" } : Jvm.MethodName)) ∈ GB := gb_t (List.mem_of_getElem? (i := 894) rfl) rfl
set_option maxRecDepth 100000 in
theorem wi_X8_trackOf : (Jvm.Cond.instanceMethod ({ cls := "ReportBlocksModel", name := "trackOf", desc := "(I)I" } : Jvm.MethodName)) ∈ GB := gb_t (List.mem_of_getElem? (i := 896) rfl) rfl
set_option maxRecDepth 100000 in
theorem wc_X8_trackOf : Cond.code yX8_trackOf cX8_trackOf 3 (Option.some Jvm.ClassFile.FieldType.int) ∈ GB := gb_t (List.mem_of_getElem? (i := 897) rfl) rfl
set_option maxRecDepth 100000 in
theorem wl_L_104 : (Jvm.Cond.methodLink "ReportBlocksLaw" (104 : Nat) ({ cls := "ReportBlocksModel", name := "tick", desc := "(I)I" } : Jvm.MethodName)) ∈ GB := gb_t (List.mem_of_getElem? (i := 898) rfl) rfl
set_option maxRecDepth 100000 in
theorem wi_X8_tick : (Jvm.Cond.instanceMethod ({ cls := "ReportBlocksModel", name := "tick", desc := "(I)I" } : Jvm.MethodName)) ∈ GB := gb_t (List.mem_of_getElem? (i := 899) rfl) rfl
set_option maxRecDepth 100000 in
theorem wv_X8_tick : (Jvm.Cond.selects "ReportBlocksModel" ({ cls := "ReportBlocksModel", name := "tick", desc := "(I)I" } : Jvm.MethodName) ({ cls := "ReportBlocksModel", name := "tick", desc := "(I)I" } : Jvm.MethodName)) ∈ GB := gb_t (List.mem_of_getElem? (i := 900) rfl) rfl
set_option maxRecDepth 100000 in
theorem wc_X8_tick : Cond.code yX8_tick cX8_tick 6 (Option.some Jvm.ClassFile.FieldType.int) ∈ GB := gb_t (List.mem_of_getElem? (i := 901) rfl) rfl
set_option maxRecDepth 100000 in
theorem wl_X8_232 : (Jvm.Cond.methodLink "ReportBlocksModel" (232 : Nat) ({ cls := "ReportBlocksModel", name := "moves", desc := "(II)V" } : Jvm.MethodName)) ∈ GB := gb_t (List.mem_of_getElem? (i := 902) rfl) rfl
set_option maxRecDepth 100000 in
theorem wi_X8_moves : (Jvm.Cond.instanceMethod ({ cls := "ReportBlocksModel", name := "moves", desc := "(II)V" } : Jvm.MethodName)) ∈ GB := gb_t (List.mem_of_getElem? (i := 904) rfl) rfl
set_option maxRecDepth 100000 in
theorem wc_X8_moves : Cond.code yX8_moves cX8_moves 3 (Option.none : Option Jvm.ClassFile.FieldType) ∈ GB := gb_t (List.mem_of_getElem? (i := 905) rfl) rfl
set_option maxRecDepth 100000 in
theorem wl_L_109 : (Jvm.Cond.methodLink "ReportBlocksLaw" (109 : Nat) ({ cls := "ReportBlocksModel", name := "track", desc := "(II)I" } : Jvm.MethodName)) ∈ GB := gb_t (List.mem_of_getElem? (i := 906) rfl) rfl
set_option maxRecDepth 100000 in
theorem wi_X8_track : (Jvm.Cond.instanceMethod ({ cls := "ReportBlocksModel", name := "track", desc := "(II)I" } : Jvm.MethodName)) ∈ GB := gb_t (List.mem_of_getElem? (i := 907) rfl) rfl
set_option maxRecDepth 100000 in
theorem wv_X8_track : (Jvm.Cond.selects "ReportBlocksModel" ({ cls := "ReportBlocksModel", name := "track", desc := "(II)I" } : Jvm.MethodName) ({ cls := "ReportBlocksModel", name := "track", desc := "(II)I" } : Jvm.MethodName)) ∈ GB := gb_t (List.mem_of_getElem? (i := 908) rfl) rfl
set_option maxRecDepth 100000 in
theorem wc_X8_track : Cond.code yX8_track cX8_track 3 (Option.some Jvm.ClassFile.FieldType.int) ∈ GB := gb_t (List.mem_of_getElem? (i := 909) rfl) rfl
set_option maxRecDepth 100000 in
theorem wl_L_113 : (Jvm.Cond.methodLink "ReportBlocksLaw" (113 : Nat) ({ cls := "ReportBlocksModel", name := "count", desc := "(I)I" } : Jvm.MethodName)) ∈ GB := gb_t (List.mem_of_getElem? (i := 910) rfl) rfl
set_option maxRecDepth 100000 in
theorem wi_X8_count : (Jvm.Cond.instanceMethod ({ cls := "ReportBlocksModel", name := "count", desc := "(I)I" } : Jvm.MethodName)) ∈ GB := gb_t (List.mem_of_getElem? (i := 911) rfl) rfl
set_option maxRecDepth 100000 in
theorem wv_X8_count : (Jvm.Cond.selects "ReportBlocksModel" ({ cls := "ReportBlocksModel", name := "count", desc := "(I)I" } : Jvm.MethodName) ({ cls := "ReportBlocksModel", name := "count", desc := "(I)I" } : Jvm.MethodName)) ∈ GB := gb_t (List.mem_of_getElem? (i := 912) rfl) rfl
set_option maxRecDepth 100000 in
theorem wc_X8_count : Cond.code yX8_count cX8_count 2 (Option.some Jvm.ClassFile.FieldType.int) ∈ GB := gb_t (List.mem_of_getElem? (i := 913) rfl) rfl
set_option maxRecDepth 100000 in
theorem wo_L_36 : (Jvm.Cond.constantLong "ReportBlocksLaw" (36 : Nat) (4294967295 : Int64)) ∈ GB := gb_t (List.mem_of_getElem? (i := 914) rfl) rfl
set_option maxRecDepth 100000 in
theorem wv_X7_indexOfNumber : Cond.selects RX7 yX7_indexOfNumber yX7_indexOfNumber ∈ GB := gb_p (List.mem_of_getElem? (i := 0) rfl) rfl
set_option maxRecDepth 100000 in
theorem wv_X7_categoryAt : Cond.selects RX7 yX7_categoryAt yX7_categoryAt ∈ GB := gb_p (List.mem_of_getElem? (i := 1) rfl) rfl
set_option maxRecDepth 100000 in
theorem wv_X7_isInUse : Cond.selects RX7 yX7_isInUse yX7_isInUse ∈ GB := gb_p (List.mem_of_getElem? (i := 2) rfl) rfl
set_option maxRecDepth 100000 in
theorem wv_X7_passBlock : Cond.selects RX7 yX7_passBlock yX7_passBlock ∈ GB := gb_p (List.mem_of_getElem? (i := 3) rfl) rfl
set_option maxRecDepth 100000 in
theorem wv_X3_passBits : Cond.selects RX3 yX3_passBits yX3_passBits ∈ GB := gb_p (List.mem_of_getElem? (i := 4) rfl) rfl
set_option maxRecDepth 100000 in
theorem wv_X3_lookForPlaces : Cond.selects RX3 yX3_lookForPlaces yX3_lookForPlaces ∈ GB := gb_p (List.mem_of_getElem? (i := 5) rfl) rfl
set_option maxRecDepth 100000 in
theorem wv_X3_pass : Cond.selects RX3 yX3_pass yX3_pass ∈ GB := gb_p (List.mem_of_getElem? (i := 6) rfl) rfl
set_option maxRecDepth 100000 in
theorem wv_X3_passGoing : Cond.selects RX3 yX3_passGoing yX3_passGoing ∈ GB := gb_p (List.mem_of_getElem? (i := 7) rfl) rfl
set_option maxRecDepth 100000 in
theorem wv_X3_passAgain : Cond.selects RX3 yX3_passAgain yX3_passAgain ∈ GB := gb_p (List.mem_of_getElem? (i := 8) rfl) rfl
set_option maxRecDepth 100000 in
theorem wv_X3_passMade : Cond.selects RX3 yX3_passMade yX3_passMade ∈ GB := gb_p (List.mem_of_getElem? (i := 9) rfl) rfl
set_option maxRecDepth 100000 in
theorem wv_X7_isRecord : Cond.selects RX7 yX7_isRecord yX7_isRecord ∈ GB := gb_p (List.mem_of_getElem? (i := 10) rfl) rfl
set_option maxRecDepth 100000 in
theorem wv_X7_partNumber : Cond.selects RX7 yX7_partNumber yX7_partNumber ∈ GB := gb_p (List.mem_of_getElem? (i := 11) rfl) rfl
set_option maxRecDepth 100000 in
theorem wv_X8_find : Cond.selects RX8 yX8_find yX8_find ∈ GB := gb_p (List.mem_of_getElem? (i := 12) rfl) rfl
set_option maxRecDepth 100000 in
theorem wv_X8_becomes : Cond.selects RX8 yX8_becomes yX8_becomes ∈ GB := gb_p (List.mem_of_getElem? (i := 13) rfl) rfl
set_option maxRecDepth 100000 in
theorem wv_X8_isCategory : Cond.selects RX8 yX8_isCategory yX8_isCategory ∈ GB := gb_p (List.mem_of_getElem? (i := 14) rfl) rfl
set_option maxRecDepth 100000 in
theorem wv_X8_isInUse : Cond.selects RX8 yX8_isInUse yX8_isInUse ∈ GB := gb_p (List.mem_of_getElem? (i := 15) rfl) rfl
set_option maxRecDepth 100000 in
theorem wv_X8_isFixed : Cond.selects RX8 yX8_isFixed yX8_isFixed ∈ GB := gb_p (List.mem_of_getElem? (i := 16) rfl) rfl
set_option maxRecDepth 100000 in
theorem wv_X8_readBlock : Cond.selects RX8 yX8_readBlock yX8_readBlock ∈ GB := gb_p (List.mem_of_getElem? (i := 17) rfl) rfl
set_option maxRecDepth 100000 in
theorem wv_X8_fails : Cond.selects RX8 yX8_fails yX8_fails ∈ GB := gb_p (List.mem_of_getElem? (i := 18) rfl) rfl
set_option maxRecDepth 100000 in
theorem wv_X8_readRecord : Cond.selects RX8 yX8_readRecord yX8_readRecord ∈ GB := gb_p (List.mem_of_getElem? (i := 19) rfl) rfl
set_option maxRecDepth 100000 in
theorem wv_X8_readBits : Cond.selects RX8 yX8_readBits yX8_readBits ∈ GB := gb_p (List.mem_of_getElem? (i := 20) rfl) rfl
set_option maxRecDepth 100000 in
theorem wv_X8_takes : Cond.selects RX8 yX8_takes yX8_takes ∈ GB := gb_p (List.mem_of_getElem? (i := 21) rfl) rfl
set_option maxRecDepth 100000 in
theorem wv_X8_needs : Cond.selects RX8 yX8_needs yX8_needs ∈ GB := gb_p (List.mem_of_getElem? (i := 22) rfl) rfl
set_option maxRecDepth 100000 in
theorem wv_X8_isEmptyByte : Cond.selects RX8 yX8_isEmptyByte yX8_isEmptyByte ∈ GB := gb_p (List.mem_of_getElem? (i := 23) rfl) rfl
set_option maxRecDepth 100000 in
theorem wv_X8_readItem : Cond.selects RX8 yX8_readItem yX8_readItem ∈ GB := gb_p (List.mem_of_getElem? (i := 24) rfl) rfl
set_option maxRecDepth 100000 in
theorem wv_X8_readGoing : Cond.selects RX8 yX8_readGoing yX8_readGoing ∈ GB := gb_p (List.mem_of_getElem? (i := 25) rfl) rfl
set_option maxRecDepth 100000 in
theorem wv_X8_readMade : Cond.selects RX8 yX8_readMade yX8_readMade ∈ GB := gb_p (List.mem_of_getElem? (i := 26) rfl) rfl
set_option maxRecDepth 100000 in
theorem wv_X8_isRecord : Cond.selects RX8 yX8_isRecord yX8_isRecord ∈ GB := gb_p (List.mem_of_getElem? (i := 27) rfl) rfl
set_option maxRecDepth 100000 in
theorem wv_X8_together : Cond.selects RX8 yX8_together yX8_together ∈ GB := gb_p (List.mem_of_getElem? (i := 28) rfl) rfl
set_option maxRecDepth 100000 in
theorem wv_X8_ofMade : Cond.selects RX8 yX8_ofMade yX8_ofMade ∈ GB := gb_p (List.mem_of_getElem? (i := 29) rfl) rfl
set_option maxRecDepth 100000 in
theorem wv_X8_put : Cond.selects RX8 yX8_put yX8_put ∈ GB := gb_p (List.mem_of_getElem? (i := 30) rfl) rfl
set_option maxRecDepth 100000 in
theorem wv_X8_trackOf : Cond.selects RX8 yX8_trackOf yX8_trackOf ∈ GB := gb_p (List.mem_of_getElem? (i := 31) rfl) rfl
set_option maxRecDepth 100000 in
theorem wv_X8_moves : Cond.selects RX8 yX8_moves yX8_moves ∈ GB := gb_p (List.mem_of_getElem? (i := 32) rfl) rfl
set_option maxRecDepth 100000 in
theorem gy_X0 : ∀ w ∈ u_ws RX0 TX0 7, w ∈ GB := List.forall_mem_cons.mpr ⟨wy_X0_category, List.forall_mem_cons.mpr ⟨wy_X0_count, List.forall_mem_cons.mpr ⟨wy_X0_bytes, List.forall_mem_cons.mpr ⟨wy_X0_size, List.forall_mem_cons.mpr ⟨wy_X0_starts, List.forall_mem_cons.mpr ⟨wy_X0_begins, List.forall_mem_cons.mpr ⟨wy_X0_sizes, fun _ h => absurd h List.not_mem_nil⟩⟩⟩⟩⟩⟩⟩
set_option maxRecDepth 100000 in
theorem gy_X1 : ∀ w ∈ u_ws RX1 TX1 6, w ∈ GB := List.forall_mem_cons.mpr ⟨wy_X1_number, List.forall_mem_cons.mpr ⟨wy_X1_kinds, List.forall_mem_cons.mpr ⟨wy_X1_sizes, List.forall_mem_cons.mpr ⟨wy_X1_parts, List.forall_mem_cons.mpr ⟨wy_X1_numberPlace, List.forall_mem_cons.mpr ⟨wy_X1_positionPlace, fun _ h => absurd h List.not_mem_nil⟩⟩⟩⟩⟩⟩
set_option maxRecDepth 100000 in
theorem gy_X2 : ∀ w ∈ u_ws RX2 TX2 3, w ∈ GB := List.forall_mem_cons.mpr ⟨wy_X2_category, List.forall_mem_cons.mpr ⟨wy_X2_bytes, List.forall_mem_cons.mpr ⟨wy_X2_sizes, fun _ h => absurd h List.not_mem_nil⟩⟩⟩
set_option maxRecDepth 100000 in
theorem gy_X3 : ∀ w ∈ u_ws RX3 TX3 6, w ∈ GB := List.forall_mem_cons.mpr ⟨wy_X3_bytes, List.forall_mem_cons.mpr ⟨wy_X3_table, List.forall_mem_cons.mpr ⟨wy_X3_next, List.forall_mem_cons.mpr ⟨wy_X3_end, List.forall_mem_cons.mpr ⟨wy_X3_fault, List.forall_mem_cons.mpr ⟨wy_X3_faultPlace, fun _ h => absurd h List.not_mem_nil⟩⟩⟩⟩⟩⟩
set_option maxRecDepth 100000 in
theorem gy_X4 : ∀ w ∈ u_ws RX4 TX4 2, w ∈ GB := List.forall_mem_cons.mpr ⟨wy_X4_bytes, List.forall_mem_cons.mpr ⟨wy_X4_size, fun _ h => absurd h List.not_mem_nil⟩⟩
set_option maxRecDepth 100000 in
theorem gy_X5 : ∀ w ∈ u_ws RX5 TX5 9, w ∈ GB := List.forall_mem_cons.mpr ⟨wy_X5_number, List.forall_mem_cons.mpr ⟨wy_X5_x, List.forall_mem_cons.mpr ⟨wy_X5_y, List.forall_mem_cons.mpr ⟨wy_X5_reportedX, List.forall_mem_cons.mpr ⟨wy_X5_reportedY, List.forall_mem_cons.mpr ⟨wy_X5_speedX, List.forall_mem_cons.mpr ⟨wy_X5_speedY, List.forall_mem_cons.mpr ⟨wy_X5_age, List.forall_mem_cons.mpr ⟨wy_X5_hits, fun _ h => absurd h List.not_mem_nil⟩⟩⟩⟩⟩⟩⟩⟩⟩
set_option maxRecDepth 100000 in
theorem gy_X6 : ∀ w ∈ u_ws RX6 TX6 5, w ∈ GB := List.forall_mem_cons.mpr ⟨wy_X6_tracks, List.forall_mem_cons.mpr ⟨wy_X6_size, List.forall_mem_cons.mpr ⟨wy_X6_lost, List.forall_mem_cons.mpr ⟨wy_X6_dropped, List.forall_mem_cons.mpr ⟨wy_X6_ticks, fun _ h => absurd h List.not_mem_nil⟩⟩⟩⟩⟩
set_option maxRecDepth 100000 in
theorem gy_X7 : ∀ w ∈ u_ws RX7 TX7 10, w ∈ GB := List.forall_mem_cons.mpr ⟨wy_X7_categories, List.forall_mem_cons.mpr ⟨wy_X7_categoryCount, List.forall_mem_cons.mpr ⟨wy_X7_belt, List.forall_mem_cons.mpr ⟨wy_X7_reader, List.forall_mem_cons.mpr ⟨wy_X7_latest, List.forall_mem_cons.mpr ⟨wy_X7_spare, List.forall_mem_cons.mpr ⟨wy_X7_own, List.forall_mem_cons.mpr ⟨wy_X7_row, List.forall_mem_cons.mpr ⟨wy_X7_latestFault, List.forall_mem_cons.mpr ⟨wy_X7_blocksRead, fun _ h => absurd h List.not_mem_nil⟩⟩⟩⟩⟩⟩⟩⟩⟩⟩
set_option maxRecDepth 100000 in
theorem gy_X8 : ∀ w ∈ u_ws RX8 TX8 46, w ∈ GB := List.forall_mem_cons.mpr ⟨wy_X8_categories, List.forall_mem_cons.mpr ⟨wy_X8_numberOf, List.forall_mem_cons.mpr ⟨wy_X8_kind, List.forall_mem_cons.mpr ⟨wy_X8_bytes, List.forall_mem_cons.mpr ⟨wy_X8_parts, List.forall_mem_cons.mpr ⟨wy_X8_trackBy, List.forall_mem_cons.mpr ⟨wy_X8_whereBy, List.forall_mem_cons.mpr ⟨wy_X8_tape, List.forall_mem_cons.mpr ⟨wy_X8_size, List.forall_mem_cons.mpr ⟨wy_X8_at, List.forall_mem_cons.mpr ⟨wy_X8_end, List.forall_mem_cons.mpr ⟨wy_X8_fault, List.forall_mem_cons.mpr ⟨wy_X8_faultAt, List.forall_mem_cons.mpr ⟨wy_X8_toldFault, List.forall_mem_cons.mpr ⟨wy_X8_records, List.forall_mem_cons.mpr ⟨wy_X8_recordsOf, List.forall_mem_cons.mpr ⟨wy_X8_block, List.forall_mem_cons.mpr ⟨wy_X8_begins, List.forall_mem_cons.mpr ⟨wy_X8_itemAt, List.forall_mem_cons.mpr ⟨wy_X8_itemSize, List.forall_mem_cons.mpr ⟨wy_X8_draftRecords, List.forall_mem_cons.mpr ⟨wy_X8_draftBegins, List.forall_mem_cons.mpr ⟨wy_X8_draftAt, List.forall_mem_cons.mpr ⟨wy_X8_draftSize, List.forall_mem_cons.mpr ⟨wy_X8_hasBit, List.forall_mem_cons.mpr ⟨wy_X8_own, List.forall_mem_cons.mpr ⟨wy_X8_ownSize, List.forall_mem_cons.mpr ⟨wy_X8_ownByte, List.forall_mem_cons.mpr ⟨wy_X8_tracks, List.forall_mem_cons.mpr ⟨wy_X8_track, List.forall_mem_cons.mpr ⟨wy_X8_x, List.forall_mem_cons.mpr ⟨wy_X8_y, List.forall_mem_cons.mpr ⟨wy_X8_speedX, List.forall_mem_cons.mpr ⟨wy_X8_speedY, List.forall_mem_cons.mpr ⟨wy_X8_age, List.forall_mem_cons.mpr ⟨wy_X8_hits, List.forall_mem_cons.mpr ⟨wy_X8_lastX, List.forall_mem_cons.mpr ⟨wy_X8_lastY, List.forall_mem_cons.mpr ⟨wy_X8_lastTick, List.forall_mem_cons.mpr ⟨wy_X8_lost, List.forall_mem_cons.mpr ⟨wy_X8_dropped, List.forall_mem_cons.mpr ⟨wy_X8_ticks, List.forall_mem_cons.mpr ⟨wy_X8_blocks, List.forall_mem_cons.mpr ⟨wy_X8_bitsAt, List.forall_mem_cons.mpr ⟨wy_X8_bitBytes, List.forall_mem_cons.mpr ⟨wy_X8_hasPlace, fun _ h => absurd h List.not_mem_nil⟩⟩⟩⟩⟩⟩⟩⟩⟩⟩⟩⟩⟩⟩⟩⟩⟩⟩⟩⟩⟩⟩⟩⟩⟩⟩⟩⟩⟩⟩⟩⟩⟩⟩⟩⟩⟩⟩⟩⟩⟩⟩⟩⟩⟩⟩
