section
-- printed by the claim's program: PART A of the skeleton, names, tables, the law's words
-- ===== PART A: goes FIRST, ahead of the names: the tables' words, and 'selects' of the private methods out of them =====
/-- a private method of a class that the tables say can be made, by its rows of tables_1 -/
def lw_okq (q : MethodName × Nat) : Prop := (q.1.cls ≠ "java/lang/invoke/MethodHandle" ∧ q.1.cls ≠ "java/lang/invoke/VarHandle") ∧ Cond.instantiable q.1.cls q.2 ∈ tables_1 ∧ Cond.privateMethod q.1 ∈ tables_1 ∧ Cond.instanceMethod q.1 ∈ tables_1
theorem lw_p0 : lw_okq (⟨"ReportBlocks", "indexOfNumber", "(I)I"⟩, 10) := ⟨⟨by decide +kernel, by decide +kernel⟩, List.mem_of_getElem? (i := 14) (by decide +kernel), List.mem_of_getElem? (i := 228) (by decide +kernel), List.mem_of_getElem? (i := 229) (by decide +kernel)⟩
theorem lw_p1 : lw_okq (⟨"ReportBlocks", "categoryAt", "(I)LReportBlocks$Category;"⟩, 10) := ⟨⟨by decide +kernel, by decide +kernel⟩, List.mem_of_getElem? (i := 14) (by decide +kernel), List.mem_of_getElem? (i := 270) (by decide +kernel), List.mem_of_getElem? (i := 271) (by decide +kernel)⟩
theorem lw_p2 : lw_okq (⟨"ReportBlocks", "isInUse", "(I)Z"⟩, 10) := ⟨⟨by decide +kernel, by decide +kernel⟩, List.mem_of_getElem? (i := 14) (by decide +kernel), List.mem_of_getElem? (i := 280) (by decide +kernel), List.mem_of_getElem? (i := 281) (by decide +kernel)⟩
theorem lw_p3 : lw_okq (⟨"ReportBlocks", "passBlock", "()V"⟩, 10) := ⟨⟨by decide +kernel, by decide +kernel⟩, List.mem_of_getElem? (i := 14) (by decide +kernel), List.mem_of_getElem? (i := 347) (by decide +kernel), List.mem_of_getElem? (i := 348) (by decide +kernel)⟩
theorem lw_p4 : lw_okq (⟨"ReportBlocks$Reader", "passBits", "(I)I"⟩, 6) := ⟨⟨by decide +kernel, by decide +kernel⟩, List.mem_of_getElem? (i := 41) (by decide +kernel), List.mem_of_getElem? (i := 363) (by decide +kernel), List.mem_of_getElem? (i := 364) (by decide +kernel)⟩
theorem lw_p5 : lw_okq (⟨"ReportBlocks$Reader", "lookForPlaces", "(II)V"⟩, 6) := ⟨⟨by decide +kernel, by decide +kernel⟩, List.mem_of_getElem? (i := 41) (by decide +kernel), List.mem_of_getElem? (i := 368) (by decide +kernel), List.mem_of_getElem? (i := 369) (by decide +kernel)⟩
theorem lw_p6 : lw_okq (⟨"ReportBlocks$Reader", "pass", "(I)V"⟩, 6) := ⟨⟨by decide +kernel, by decide +kernel⟩, List.mem_of_getElem? (i := 41) (by decide +kernel), List.mem_of_getElem? (i := 383) (by decide +kernel), List.mem_of_getElem? (i := 384) (by decide +kernel)⟩
theorem lw_p7 : lw_okq (⟨"ReportBlocks$Reader", "passGoing", "()V"⟩, 6) := ⟨⟨by decide +kernel, by decide +kernel⟩, List.mem_of_getElem? (i := 41) (by decide +kernel), List.mem_of_getElem? (i := 387) (by decide +kernel), List.mem_of_getElem? (i := 388) (by decide +kernel)⟩
theorem lw_p8 : lw_okq (⟨"ReportBlocks$Reader", "passAgain", "(I)V"⟩, 6) := ⟨⟨by decide +kernel, by decide +kernel⟩, List.mem_of_getElem? (i := 41) (by decide +kernel), List.mem_of_getElem? (i := 391) (by decide +kernel), List.mem_of_getElem? (i := 392) (by decide +kernel)⟩
theorem lw_p9 : lw_okq (⟨"ReportBlocks$Reader", "passMade", "(I)V"⟩, 6) := ⟨⟨by decide +kernel, by decide +kernel⟩, List.mem_of_getElem? (i := 41) (by decide +kernel), List.mem_of_getElem? (i := 395) (by decide +kernel), List.mem_of_getElem? (i := 396) (by decide +kernel)⟩
theorem lw_p10 : lw_okq (⟨"ReportBlocks", "isRecord", "(I)Z"⟩, 10) := ⟨⟨by decide +kernel, by decide +kernel⟩, List.mem_of_getElem? (i := 14) (by decide +kernel), List.mem_of_getElem? (i := 434) (by decide +kernel), List.mem_of_getElem? (i := 435) (by decide +kernel)⟩
theorem lw_p11 : lw_okq (⟨"ReportBlocks", "partNumber", "(LReportBlocks$Category;III)J"⟩, 10) := ⟨⟨by decide +kernel, by decide +kernel⟩, List.mem_of_getElem? (i := 14) (by decide +kernel), List.mem_of_getElem? (i := 461) (by decide +kernel), List.mem_of_getElem? (i := 462) (by decide +kernel)⟩
theorem lw_p12 : lw_okq (⟨"ReportBlocksModel", "find", "(I)I"⟩, 46) := ⟨⟨by decide +kernel, by decide +kernel⟩, List.mem_of_getElem? (i := 580) (by decide +kernel), List.mem_of_getElem? (i := 733) (by decide +kernel), List.mem_of_getElem? (i := 734) (by decide +kernel)⟩
theorem lw_p13 : lw_okq (⟨"ReportBlocksModel", "becomes", "(IIII)V"⟩, 46) := ⟨⟨by decide +kernel, by decide +kernel⟩, List.mem_of_getElem? (i := 580) (by decide +kernel), List.mem_of_getElem? (i := 737) (by decide +kernel), List.mem_of_getElem? (i := 738) (by decide +kernel)⟩
theorem lw_p14 : lw_okq (⟨"ReportBlocksModel", "isCategory", "(I)Z"⟩, 46) := ⟨⟨by decide +kernel, by decide +kernel⟩, List.mem_of_getElem? (i := 580) (by decide +kernel), List.mem_of_getElem? (i := 745) (by decide +kernel), List.mem_of_getElem? (i := 746) (by decide +kernel)⟩
theorem lw_p15 : lw_okq (⟨"ReportBlocksModel", "isInUse", "(I)Z"⟩, 46) := ⟨⟨by decide +kernel, by decide +kernel⟩, List.mem_of_getElem? (i := 580) (by decide +kernel), List.mem_of_getElem? (i := 752) (by decide +kernel), List.mem_of_getElem? (i := 753) (by decide +kernel)⟩
def lw_privs_1 : List (MethodName × Nat) := [(⟨"ReportBlocks", "indexOfNumber", "(I)I"⟩, 10), (⟨"ReportBlocks", "categoryAt", "(I)LReportBlocks$Category;"⟩, 10), (⟨"ReportBlocks", "isInUse", "(I)Z"⟩, 10), (⟨"ReportBlocks", "passBlock", "()V"⟩, 10), (⟨"ReportBlocks$Reader", "passBits", "(I)I"⟩, 6), (⟨"ReportBlocks$Reader", "lookForPlaces", "(II)V"⟩, 6), (⟨"ReportBlocks$Reader", "pass", "(I)V"⟩, 6), (⟨"ReportBlocks$Reader", "passGoing", "()V"⟩, 6), (⟨"ReportBlocks$Reader", "passAgain", "(I)V"⟩, 6), (⟨"ReportBlocks$Reader", "passMade", "(I)V"⟩, 6), (⟨"ReportBlocks", "isRecord", "(I)Z"⟩, 10), (⟨"ReportBlocks", "partNumber", "(LReportBlocks$Category;III)J"⟩, 10), (⟨"ReportBlocksModel", "find", "(I)I"⟩, 46), (⟨"ReportBlocksModel", "becomes", "(IIII)V"⟩, 46), (⟨"ReportBlocksModel", "isCategory", "(I)Z"⟩, 46), (⟨"ReportBlocksModel", "isInUse", "(I)Z"⟩, 46)]
theorem lw_r1 : ∀ q ∈ lw_privs_1, lw_okq q := List.forall_mem_cons.mpr ⟨lw_p0, List.forall_mem_cons.mpr ⟨lw_p1, List.forall_mem_cons.mpr ⟨lw_p2, List.forall_mem_cons.mpr ⟨lw_p3, List.forall_mem_cons.mpr ⟨lw_p4, List.forall_mem_cons.mpr ⟨lw_p5, List.forall_mem_cons.mpr ⟨lw_p6, List.forall_mem_cons.mpr ⟨lw_p7, List.forall_mem_cons.mpr ⟨lw_p8, List.forall_mem_cons.mpr ⟨lw_p9, List.forall_mem_cons.mpr ⟨lw_p10, List.forall_mem_cons.mpr ⟨lw_p11, List.forall_mem_cons.mpr ⟨lw_p12, List.forall_mem_cons.mpr ⟨lw_p13, List.forall_mem_cons.mpr ⟨lw_p14, List.forall_mem_cons.mpr ⟨lw_p15, fun _ h => absurd h List.not_mem_nil⟩⟩⟩⟩⟩⟩⟩⟩⟩⟩⟩⟩⟩⟩⟩⟩
theorem lw_p16 : lw_okq (⟨"ReportBlocksModel", "isFixed", "(III)Z"⟩, 46) := ⟨⟨by decide +kernel, by decide +kernel⟩, List.mem_of_getElem? (i := 580) (by decide +kernel), List.mem_of_getElem? (i := 764) (by decide +kernel), List.mem_of_getElem? (i := 765) (by decide +kernel)⟩
theorem lw_p17 : lw_okq (⟨"ReportBlocksModel", "readBlock", "()I"⟩, 46) := ⟨⟨by decide +kernel, by decide +kernel⟩, List.mem_of_getElem? (i := 580) (by decide +kernel), List.mem_of_getElem? (i := 788) (by decide +kernel), List.mem_of_getElem? (i := 789) (by decide +kernel)⟩
theorem lw_p18 : lw_okq (⟨"ReportBlocksModel", "fails", "(II)V"⟩, 46) := ⟨⟨by decide +kernel, by decide +kernel⟩, List.mem_of_getElem? (i := 580) (by decide +kernel), List.mem_of_getElem? (i := 792) (by decide +kernel), List.mem_of_getElem? (i := 793) (by decide +kernel)⟩
theorem lw_p19 : lw_okq (⟨"ReportBlocksModel", "readRecord", "(I)V"⟩, 46) := ⟨⟨by decide +kernel, by decide +kernel⟩, List.mem_of_getElem? (i := 580) (by decide +kernel), List.mem_of_getElem? (i := 796) (by decide +kernel), List.mem_of_getElem? (i := 797) (by decide +kernel)⟩
theorem lw_p20 : lw_okq (⟨"ReportBlocksModel", "readBits", "(I)V"⟩, 46) := ⟨⟨by decide +kernel, by decide +kernel⟩, List.mem_of_getElem? (i := 580) (by decide +kernel), List.mem_of_getElem? (i := 800) (by decide +kernel), List.mem_of_getElem? (i := 801) (by decide +kernel)⟩
theorem lw_p21 : lw_okq (⟨"ReportBlocksModel", "takes", "()I"⟩, 46) := ⟨⟨by decide +kernel, by decide +kernel⟩, List.mem_of_getElem? (i := 580) (by decide +kernel), List.mem_of_getElem? (i := 804) (by decide +kernel), List.mem_of_getElem? (i := 805) (by decide +kernel)⟩
theorem lw_p22 : lw_okq (⟨"ReportBlocksModel", "needs", "(I)V"⟩, 46) := ⟨⟨by decide +kernel, by decide +kernel⟩, List.mem_of_getElem? (i := 580) (by decide +kernel), List.mem_of_getElem? (i := 808) (by decide +kernel), List.mem_of_getElem? (i := 809) (by decide +kernel)⟩
theorem lw_p23 : lw_okq (⟨"ReportBlocksModel", "isEmptyByte", "(I)Z"⟩, 46) := ⟨⟨by decide +kernel, by decide +kernel⟩, List.mem_of_getElem? (i := 580) (by decide +kernel), List.mem_of_getElem? (i := 812) (by decide +kernel), List.mem_of_getElem? (i := 813) (by decide +kernel)⟩
theorem lw_p24 : lw_okq (⟨"ReportBlocksModel", "readItem", "(II)V"⟩, 46) := ⟨⟨by decide +kernel, by decide +kernel⟩, List.mem_of_getElem? (i := 580) (by decide +kernel), List.mem_of_getElem? (i := 816) (by decide +kernel), List.mem_of_getElem? (i := 817) (by decide +kernel)⟩
theorem lw_p25 : lw_okq (⟨"ReportBlocksModel", "readGoing", "()V"⟩, 46) := ⟨⟨by decide +kernel, by decide +kernel⟩, List.mem_of_getElem? (i := 580) (by decide +kernel), List.mem_of_getElem? (i := 820) (by decide +kernel), List.mem_of_getElem? (i := 821) (by decide +kernel)⟩
theorem lw_p26 : lw_okq (⟨"ReportBlocksModel", "readMade", "(II)V"⟩, 46) := ⟨⟨by decide +kernel, by decide +kernel⟩, List.mem_of_getElem? (i := 580) (by decide +kernel), List.mem_of_getElem? (i := 824) (by decide +kernel), List.mem_of_getElem? (i := 825) (by decide +kernel)⟩
theorem lw_p27 : lw_okq (⟨"ReportBlocksModel", "isRecord", "(I)Z"⟩, 46) := ⟨⟨by decide +kernel, by decide +kernel⟩, List.mem_of_getElem? (i := 580) (by decide +kernel), List.mem_of_getElem? (i := 840) (by decide +kernel), List.mem_of_getElem? (i := 841) (by decide +kernel)⟩
theorem lw_p28 : lw_okq (⟨"ReportBlocksModel", "together", "(II)J"⟩, 46) := ⟨⟨by decide +kernel, by decide +kernel⟩, List.mem_of_getElem? (i := 580) (by decide +kernel), List.mem_of_getElem? (i := 854) (by decide +kernel), List.mem_of_getElem? (i := 855) (by decide +kernel)⟩
theorem lw_p29 : lw_okq (⟨"ReportBlocksModel", "ofMade", "(IIII)J"⟩, 46) := ⟨⟨by decide +kernel, by decide +kernel⟩, List.mem_of_getElem? (i := 580) (by decide +kernel), List.mem_of_getElem? (i := 858) (by decide +kernel), List.mem_of_getElem? (i := 859) (by decide +kernel)⟩
theorem lw_p30 : lw_okq (⟨"ReportBlocksModel", "put", "(I)V"⟩, 46) := ⟨⟨by decide +kernel, by decide +kernel⟩, List.mem_of_getElem? (i := 580) (by decide +kernel), List.mem_of_getElem? (i := 878) (by decide +kernel), List.mem_of_getElem? (i := 879) (by decide +kernel)⟩
theorem lw_p31 : lw_okq (⟨"ReportBlocksModel", "trackOf", "(I)I"⟩, 46) := ⟨⟨by decide +kernel, by decide +kernel⟩, List.mem_of_getElem? (i := 580) (by decide +kernel), List.mem_of_getElem? (i := 895) (by decide +kernel), List.mem_of_getElem? (i := 896) (by decide +kernel)⟩
def lw_privs_2 : List (MethodName × Nat) := [(⟨"ReportBlocksModel", "isFixed", "(III)Z"⟩, 46), (⟨"ReportBlocksModel", "readBlock", "()I"⟩, 46), (⟨"ReportBlocksModel", "fails", "(II)V"⟩, 46), (⟨"ReportBlocksModel", "readRecord", "(I)V"⟩, 46), (⟨"ReportBlocksModel", "readBits", "(I)V"⟩, 46), (⟨"ReportBlocksModel", "takes", "()I"⟩, 46), (⟨"ReportBlocksModel", "needs", "(I)V"⟩, 46), (⟨"ReportBlocksModel", "isEmptyByte", "(I)Z"⟩, 46), (⟨"ReportBlocksModel", "readItem", "(II)V"⟩, 46), (⟨"ReportBlocksModel", "readGoing", "()V"⟩, 46), (⟨"ReportBlocksModel", "readMade", "(II)V"⟩, 46), (⟨"ReportBlocksModel", "isRecord", "(I)Z"⟩, 46), (⟨"ReportBlocksModel", "together", "(II)J"⟩, 46), (⟨"ReportBlocksModel", "ofMade", "(IIII)J"⟩, 46), (⟨"ReportBlocksModel", "put", "(I)V"⟩, 46), (⟨"ReportBlocksModel", "trackOf", "(I)I"⟩, 46)]
theorem lw_r2 : ∀ q ∈ lw_privs_2, lw_okq q := List.forall_mem_cons.mpr ⟨lw_p16, List.forall_mem_cons.mpr ⟨lw_p17, List.forall_mem_cons.mpr ⟨lw_p18, List.forall_mem_cons.mpr ⟨lw_p19, List.forall_mem_cons.mpr ⟨lw_p20, List.forall_mem_cons.mpr ⟨lw_p21, List.forall_mem_cons.mpr ⟨lw_p22, List.forall_mem_cons.mpr ⟨lw_p23, List.forall_mem_cons.mpr ⟨lw_p24, List.forall_mem_cons.mpr ⟨lw_p25, List.forall_mem_cons.mpr ⟨lw_p26, List.forall_mem_cons.mpr ⟨lw_p27, List.forall_mem_cons.mpr ⟨lw_p28, List.forall_mem_cons.mpr ⟨lw_p29, List.forall_mem_cons.mpr ⟨lw_p30, List.forall_mem_cons.mpr ⟨lw_p31, fun _ h => absurd h List.not_mem_nil⟩⟩⟩⟩⟩⟩⟩⟩⟩⟩⟩⟩⟩⟩⟩⟩
theorem lw_p32 : lw_okq (⟨"ReportBlocksModel", "moves", "(II)V"⟩, 46) := ⟨⟨by decide +kernel, by decide +kernel⟩, List.mem_of_getElem? (i := 580) (by decide +kernel), List.mem_of_getElem? (i := 903) (by decide +kernel), List.mem_of_getElem? (i := 904) (by decide +kernel)⟩
def lw_privs_3 : List (MethodName × Nat) := [(⟨"ReportBlocksModel", "moves", "(II)V"⟩, 46)]
theorem lw_r3 : ∀ q ∈ lw_privs_3, lw_okq q := List.forall_mem_cons.mpr ⟨lw_p32, fun _ h => absurd h List.not_mem_nil⟩
def lw_privs : List (MethodName × Nat) := lw_privs_1 ++ (lw_privs_2 ++ (lw_privs_3))
def lw_tbl : List Cond := k2_sels lw_privs ++ tables_1
theorem lw_privs_ok : ∀ q ∈ lw_privs, lw_okq q := by
  show ∀ q ∈ lw_privs_1 ++ (lw_privs_2 ++ (lw_privs_3)), lw_okq q
  exact List.forall_mem_append.mpr ⟨lw_r1, List.forall_mem_append.mpr ⟨lw_r2, lw_r3⟩⟩
theorem goodIn_r {big : List Cond} (ws : List Cond) (ps : List Nat) (hp : ws = ps.filterMap (fun i => big[i]?)) (h : ws.all goodWord = true) : GoodIn big ws := by
  intro w hw
  have h1 := List.all_eq_true.mp h w hw
  rw [hp] at hw
  obtain ⟨i, -, hi⟩ := List.mem_filterMap.mp hw
  have hm : w ∈ big := by first | exact List.mem_of_getElem? hi | exact List.getElem?_mem hi
  exact ⟨hm, good_of_word h1⟩
theorem goodIn_app {big a b : List Cond} (ha : GoodIn big a) (hb : GoodIn big b) : GoodIn big (a ++ b) := fun w h => (List.mem_append.mp h).elim (ha w) (hb w)
theorem goodIn_ca {big a b : List Cond} {c : Cond} (ha : GoodIn big (c :: a)) (hb : GoodIn big b) : GoodIn big (c :: (a ++ b)) := fun w h => (List.mem_cons.mp h).elim (fun e => ha w (List.mem_cons.mpr (Or.inl e))) (fun h => (List.mem_append.mp h).elim (fun h => ha w (List.mem_cons.mpr (Or.inr h))) (hb w))
theorem goodIn_sub {big ws : List Cond} (hm : ∀ w ∈ ws, w ∈ big) (h : ws.all goodWord = true) : GoodIn big ws := fun w hw => ⟨hm w hw, good_of_word (List.all_eq_true.mp h w hw)⟩

def RX0 : String := "ReportBlocks$Block"
def TX0 : u_T := fun k => match k with
  | 0 => ("ReportBlocks$Block", "category", "I", false)
  | 1 => ("ReportBlocks$Block", "count", "I", false)
  | 2 => ("ReportBlocks$Block", "bytes", "[I", true)
  | 3 => ("ReportBlocks$Block", "size", "I", false)
  | 4 => ("ReportBlocks$Block", "starts", "[I", true)
  | 5 => ("ReportBlocks$Block", "begins", "[I", true)
  | _ => ("ReportBlocks$Block", "sizes", "[I", true)
def tyX0 : Nat → FieldType := fun k => match k with
  | 0 => .int
  | 1 => .int
  | 2 => .array .int
  | 3 => .int
  | 4 => .array .int
  | 5 => .array .int
  | _ => .array .int
abbrev wsX00 : List Cond := u_ws RX0 TX0 7
theorem nmX0 : ∀ a, a < 7 → ∀ b, b < 7 → a ≠ b → (TX0 a).2.1 ≠ (TX0 b).2.1 := by decide +kernel
theorem tyX0_ok : ∀ k, k < 7 → parseFieldDescriptor (TX0 k).2.2.1 = some (tyX0 k) := by decide +kernel
abbrev cX0_init : ByteArray := prog_2_method_1_code
def yX0_init : MethodName := ⟨RX0, "<init>", "()V"⟩
abbrev cX0_clear : ByteArray := prog_2_method_2_code
def yX0_clear : MethodName := ⟨RX0, "clear", "()V"⟩
abbrev cX0_keepBytes : ByteArray := prog_2_method_3_code
def yX0_keepBytes : MethodName := ⟨RX0, "keepBytes", "([II)V"⟩
abbrev cX0_startRecord : ByteArray := prog_2_method_4_code
def yX0_startRecord : MethodName := ⟨RX0, "startRecord", "(I)I"⟩
abbrev cX0_putItem : ByteArray := prog_2_method_5_code
def yX0_putItem : MethodName := ⟨RX0, "putItem", "(IIII)V"⟩
abbrev cX0_sizeOf : ByteArray := prog_2_method_6_code
def yX0_sizeOf : MethodName := ⟨RX0, "sizeOf", "(II)I"⟩
abbrev cX0_beginOf : ByteArray := prog_2_method_7_code
def yX0_beginOf : MethodName := ⟨RX0, "beginOf", "(II)I"⟩
abbrev cX0_bytesOf : ByteArray := prog_2_method_8_code
def yX0_bytesOf : MethodName := ⟨RX0, "bytesOf", "(I)I"⟩
abbrev cX0_bytesWithout : ByteArray := prog_2_method_9_code
def yX0_bytesWithout : MethodName := ⟨RX0, "bytesWithout", "(I)I"⟩
abbrev cX0_joined : ByteArray := prog_2_method_10_code
def yX0_joined : MethodName := ⟨RX0, "joined", "(II)J"⟩
abbrev cX0_slot : ByteArray := prog_2_method_11_code
def yX0_slot : MethodName := ⟨RX0, "slot", "(II)I"⟩
def RX1 : String := "ReportBlocks$Category"
def TX1 : u_T := fun k => match k with
  | 0 => ("ReportBlocks$Category", "number", "I", true)
  | 1 => ("ReportBlocks$Category", "kinds", "[I", true)
  | 2 => ("ReportBlocks$Category", "sizes", "[I", true)
  | 3 => ("ReportBlocks$Category", "parts", "[I", true)
  | 4 => ("ReportBlocks$Category", "numberPlace", "I", false)
  | _ => ("ReportBlocks$Category", "positionPlace", "I", false)
def tyX1 : Nat → FieldType := fun k => match k with
  | 0 => .int
  | 1 => .array .int
  | 2 => .array .int
  | 3 => .array .int
  | 4 => .int
  | _ => .int
abbrev wsX10 : List Cond := u_ws RX1 TX1 6
theorem nmX1 : ∀ a, a < 6 → ∀ b, b < 6 → a ≠ b → (TX1 a).2.1 ≠ (TX1 b).2.1 := by decide +kernel
theorem tyX1_ok : ∀ k, k < 6 → parseFieldDescriptor (TX1 k).2.2.1 = some (tyX1 k) := by decide +kernel
abbrev cX1_init : ByteArray := prog_3_method_1_code
def yX1_init : MethodName := ⟨RX1, "<init>", "(I)V"⟩
abbrev cX1_putItem : ByteArray := prog_3_method_2_code
def yX1_putItem : MethodName := ⟨RX1, "putItem", "(III)V"⟩
abbrev cX1_isFixed : ByteArray := prog_3_method_3_code
def yX1_isFixed : MethodName := ⟨RX1, "isFixed", "(II)Z"⟩
abbrev cX1_tellsTrack : ByteArray := prog_3_method_4_code
def yX1_tellsTrack : MethodName := ⟨RX1, "tellsTrack", "()Z"⟩
abbrev cX1_partBytes : ByteArray := prog_3_method_5_code
def yX1_partBytes : MethodName := ⟨RX1, "partBytes", "(II)I"⟩
abbrev cX1_putPart : ByteArray := prog_3_method_6_code
def yX1_putPart : MethodName := ⟨RX1, "putPart", "(III)V"⟩
def RX2 : String := "ReportBlocks$OwnRecord"
def TX2 : u_T := fun k => match k with
  | 0 => ("ReportBlocks$OwnRecord", "category", "I", false)
  | 1 => ("ReportBlocks$OwnRecord", "bytes", "[I", true)
  | _ => ("ReportBlocks$OwnRecord", "sizes", "[I", true)
def tyX2 : Nat → FieldType := fun k => match k with
  | 0 => .int
  | 1 => .array .int
  | _ => .array .int
abbrev wsX20 : List Cond := u_ws RX2 TX2 3
theorem nmX2 : ∀ a, a < 3 → ∀ b, b < 3 → a ≠ b → (TX2 a).2.1 ≠ (TX2 b).2.1 := by decide +kernel
theorem tyX2_ok : ∀ k, k < 3 → parseFieldDescriptor (TX2 k).2.2.1 = some (tyX2 k) := by decide +kernel
abbrev cX2_init : ByteArray := prog_4_method_1_code
def yX2_init : MethodName := ⟨RX2, "<init>", "()V"⟩
abbrev cX2_rowOf : ByteArray := prog_4_method_2_code
def yX2_rowOf : MethodName := ⟨RX2, "rowOf", "(I)I"⟩
abbrev cX2_startFor : ByteArray := prog_4_method_3_code
def yX2_startFor : MethodName := ⟨RX2, "startFor", "(I)V"⟩
abbrev cX2_putItem : ByteArray := prog_4_method_4_code
def yX2_putItem : MethodName := ⟨RX2, "putItem", "(I[II)V"⟩
abbrev cX2_lastPlace : ByteArray := prog_4_method_5_code
def yX2_lastPlace : MethodName := ⟨RX2, "lastPlace", "()I"⟩
abbrev cX2_itemBytes : ByteArray := prog_4_method_6_code
def yX2_itemBytes : MethodName := ⟨RX2, "itemBytes", "()I"⟩
abbrev cX2_bitsByte : ByteArray := prog_4_method_7_code
def yX2_bitsByte : MethodName := ⟨RX2, "bitsByte", "(IZ)I"⟩
def RX3 : String := "ReportBlocks$Reader"
def TX3 : u_T := fun k => match k with
  | 0 => ("ReportBlocks$Reader", "bytes", "[I", true)
  | 1 => ("ReportBlocks$Reader", "table", "LReportBlocks$Category;", false)
  | 2 => ("ReportBlocks$Reader", "next", "I", false)
  | 3 => ("ReportBlocks$Reader", "end", "I", false)
  | 4 => ("ReportBlocks$Reader", "fault", "I", false)
  | _ => ("ReportBlocks$Reader", "faultPlace", "I", false)
def tyX3 : Nat → FieldType := fun k => match k with
  | 0 => .array .int
  | 1 => .object "ReportBlocks$Category"
  | 2 => .int
  | 3 => .int
  | 4 => .int
  | _ => .int
abbrev wsX30 : List Cond := u_ws RX3 TX3 6
theorem nmX3 : ∀ a, a < 6 → ∀ b, b < 6 → a ≠ b → (TX3 a).2.1 ≠ (TX3 b).2.1 := by decide +kernel
theorem tyX3_ok : ∀ k, k < 6 → parseFieldDescriptor (TX3 k).2.2.1 = some (tyX3 k) := by decide +kernel
abbrev cX3_init : ByteArray := prog_5_method_1_code
def yX3_init : MethodName := ⟨RX3, "<init>", "(LReportBlocks$Tape;)V"⟩
abbrev cX3_start : ByteArray := prog_5_method_2_code
def yX3_start : MethodName := ⟨RX3, "start", "(I)V"⟩
abbrev cX3_hasMore : ByteArray := prog_5_method_3_code
def yX3_hasMore : MethodName := ⟨RX3, "hasMore", "()Z"⟩
abbrev cX3_fail : ByteArray := prog_5_method_4_code
def yX3_fail : MethodName := ⟨RX3, "fail", "(II)V"⟩
abbrev cX3_passRecord : ByteArray := prog_5_method_5_code
def yX3_passRecord : MethodName := ⟨RX3, "passRecord", "(LReportBlocks$Block;)V"⟩
abbrev cX3_refuseRecord : ByteArray := prog_5_method_6_code
def yX3_refuseRecord : MethodName := ⟨RX3, "refuseRecord", "()V"⟩
abbrev cX3_passItem : ByteArray := prog_5_method_7_code
def yX3_passItem : MethodName := ⟨RX3, "passItem", "(I)V"⟩
abbrev cX3_pass : ByteArray := prog_5_method_8_code
def yX3_pass : MethodName := ⟨RX3, "pass", "(I)V"⟩
abbrev cX3_passGoing : ByteArray := prog_5_method_9_code
def yX3_passGoing : MethodName := ⟨RX3, "passGoing", "()V"⟩
abbrev cX3_passAgain : ByteArray := prog_5_method_10_code
def yX3_passAgain : MethodName := ⟨RX3, "passAgain", "(I)V"⟩
abbrev cX3_passMade : ByteArray := prog_5_method_11_code
def yX3_passMade : MethodName := ⟨RX3, "passMade", "(I)V"⟩
abbrev cX3_passBits : ByteArray := prog_5_method_12_code
def yX3_passBits : MethodName := ⟨RX3, "passBits", "(I)I"⟩
abbrev cX3_lookForPlaces : ByteArray := prog_5_method_13_code
def yX3_lookForPlaces : MethodName := ⟨RX3, "lookForPlaces", "(II)V"⟩
def RX4 : String := "ReportBlocks$Tape"
def TX4 : u_T := fun k => match k with
  | 0 => ("ReportBlocks$Tape", "bytes", "[I", true)
  | _ => ("ReportBlocks$Tape", "size", "I", false)
def tyX4 : Nat → FieldType := fun k => match k with
  | 0 => .array .int
  | _ => .int
abbrev wsX40 : List Cond := u_ws RX4 TX4 2
theorem nmX4 : ∀ a, a < 2 → ∀ b, b < 2 → a ≠ b → (TX4 a).2.1 ≠ (TX4 b).2.1 := by decide +kernel
theorem tyX4_ok : ∀ k, k < 2 → parseFieldDescriptor (TX4 k).2.2.1 = some (tyX4 k) := by decide +kernel
abbrev cX4_init : ByteArray := prog_6_method_1_code
def yX4_init : MethodName := ⟨RX4, "<init>", "()V"⟩
abbrev cX4_hasRoom : ByteArray := prog_6_method_2_code
def yX4_hasRoom : MethodName := ⟨RX4, "hasRoom", "(I)Z"⟩
abbrev cX4_put : ByteArray := prog_6_method_3_code
def yX4_put : MethodName := ⟨RX4, "put", "(I)V"⟩
abbrev cX4_putHead : ByteArray := prog_6_method_4_code
def yX4_putHead : MethodName := ⟨RX4, "putHead", "(II)V"⟩
abbrev cX4_putAll : ByteArray := prog_6_method_5_code
def yX4_putAll : MethodName := ⟨RX4, "putAll", "([III)V"⟩
abbrev cX4_dropFirst : ByteArray := prog_6_method_6_code
def yX4_dropFirst : MethodName := ⟨RX4, "dropFirst", "(I)V"⟩
def RX5 : String := "ReportBlocks$Track"
def TX5 : u_T := fun k => match k with
  | 0 => ("ReportBlocks$Track", "number", "I", false)
  | 1 => ("ReportBlocks$Track", "x", "I", false)
  | 2 => ("ReportBlocks$Track", "y", "I", false)
  | 3 => ("ReportBlocks$Track", "reportedX", "I", false)
  | 4 => ("ReportBlocks$Track", "reportedY", "I", false)
  | 5 => ("ReportBlocks$Track", "speedX", "I", false)
  | 6 => ("ReportBlocks$Track", "speedY", "I", false)
  | 7 => ("ReportBlocks$Track", "age", "I", false)
  | _ => ("ReportBlocks$Track", "hits", "I", false)
def tyX5 : Nat → FieldType := fun k => match k with
  | 0 => .int
  | 1 => .int
  | 2 => .int
  | 3 => .int
  | 4 => .int
  | 5 => .int
  | 6 => .int
  | 7 => .int
  | _ => .int
abbrev wsX50 : List Cond := u_ws RX5 TX5 9
theorem nmX5 : ∀ a, a < 9 → ∀ b, b < 9 → a ≠ b → (TX5 a).2.1 ≠ (TX5 b).2.1 := by decide +kernel
theorem tyX5_ok : ∀ k, k < 9 → parseFieldDescriptor (TX5 k).2.2.1 = some (tyX5 k) := by decide +kernel
abbrev cX5_init : ByteArray := prog_7_method_1_code
def yX5_init : MethodName := ⟨RX5, "<init>", "()V"⟩
abbrev cX5_come : ByteArray := prog_7_method_2_code
def yX5_come : MethodName := ⟨RX5, "come", "(III)V"⟩
abbrev cX5_update : ByteArray := prog_7_method_3_code
def yX5_update : MethodName := ⟨RX5, "update", "(II)V"⟩
abbrev cX5_passTick : ByteArray := prog_7_method_4_code
def yX5_passTick : MethodName := ⟨RX5, "passTick", "()V"⟩
def RX6 : String := "ReportBlocks$TrackRow"
def TX6 : u_T := fun k => match k with
  | 0 => ("ReportBlocks$TrackRow", "tracks", "[LReportBlocks$Track;", true)
  | 1 => ("ReportBlocks$TrackRow", "size", "I", false)
  | 2 => ("ReportBlocks$TrackRow", "lost", "I", false)
  | 3 => ("ReportBlocks$TrackRow", "dropped", "I", false)
  | _ => ("ReportBlocks$TrackRow", "ticks", "I", false)
def tyX6 : Nat → FieldType := fun k => match k with
  | 0 => .array (.object "ReportBlocks$Track")
  | 1 => .int
  | 2 => .int
  | 3 => .int
  | _ => .int
abbrev wsX60 : List Cond := u_ws RX6 TX6 5
theorem nmX6 : ∀ a, a < 5 → ∀ b, b < 5 → a ≠ b → (TX6 a).2.1 ≠ (TX6 b).2.1 := by decide +kernel
theorem tyX6_ok : ∀ k, k < 5 → parseFieldDescriptor (TX6 k).2.2.1 = some (tyX6 k) := by decide +kernel
abbrev cX6_init : ByteArray := prog_8_method_1_code
def yX6_init : MethodName := ⟨RX6, "<init>", "()V"⟩
abbrev cX6_update : ByteArray := prog_8_method_2_code
def yX6_update : MethodName := ⟨RX6, "update", "(III)I"⟩
abbrev cX6_passTick : ByteArray := prog_8_method_3_code
def yX6_passTick : MethodName := ⟨RX6, "passTick", "()V"⟩
def RX7 : String := "ReportBlocks"
def TX7 : u_T := fun k => match k with
  | 0 => ("ReportBlocks", "categories", "[LReportBlocks$Category;", true)
  | 1 => ("ReportBlocks", "categoryCount", "I", false)
  | 2 => ("ReportBlocks", "belt", "LReportBlocks$Tape;", true)
  | 3 => ("ReportBlocks", "reader", "LReportBlocks$Reader;", true)
  | 4 => ("ReportBlocks", "latest", "LReportBlocks$Block;", false)
  | 5 => ("ReportBlocks", "spare", "LReportBlocks$Block;", false)
  | 6 => ("ReportBlocks", "own", "LReportBlocks$OwnRecord;", true)
  | 7 => ("ReportBlocks", "row", "LReportBlocks$TrackRow;", true)
  | 8 => ("ReportBlocks", "latestFault", "I", false)
  | _ => ("ReportBlocks", "blocksRead", "I", false)
def tyX7 : Nat → FieldType := fun k => match k with
  | 0 => .array (.object "ReportBlocks$Category")
  | 1 => .int
  | 2 => .object "ReportBlocks$Tape"
  | 3 => .object "ReportBlocks$Reader"
  | 4 => .object "ReportBlocks$Block"
  | 5 => .object "ReportBlocks$Block"
  | 6 => .object "ReportBlocks$OwnRecord"
  | 7 => .object "ReportBlocks$TrackRow"
  | 8 => .int
  | _ => .int
abbrev wsX70 : List Cond := u_ws RX7 TX7 10
theorem nmX7 : ∀ a, a < 10 → ∀ b, b < 10 → a ≠ b → (TX7 a).2.1 ≠ (TX7 b).2.1 := by decide +kernel
theorem tyX7_ok : ∀ k, k < 10 → parseFieldDescriptor (TX7 k).2.2.1 = some (tyX7 k) := by decide +kernel
abbrev cX7_init : ByteArray := prog_1_method_1_code
def yX7_init : MethodName := ⟨RX7, "<init>", "()V"⟩
abbrev cX7_category : ByteArray := prog_1_method_2_code
def yX7_category : MethodName := ⟨RX7, "category", "(I)I"⟩
abbrev cX7_item : ByteArray := prog_1_method_3_code
def yX7_item : MethodName := ⟨RX7, "item", "(IIII)I"⟩
abbrev cX7_part : ByteArray := prog_1_method_4_code
def yX7_part : MethodName := ⟨RX7, "part", "(IIII)I"⟩
abbrev cX7_tells : ByteArray := prog_1_method_5_code
def yX7_tells : MethodName := ⟨RX7, "tells", "(III)I"⟩
abbrev cX7_table : ByteArray := prog_1_method_6_code
def yX7_table : MethodName := ⟨RX7, "table", "(III)I"⟩
abbrev cX7_feed : ByteArray := prog_1_method_7_code
def yX7_feed : MethodName := ⟨RX7, "feed", "(JI)I"⟩
abbrev cX7_tear : ByteArray := prog_1_method_8_code
def yX7_tear : MethodName := ⟨RX7, "tear", "()I"⟩
abbrev cX7_read : ByteArray := prog_1_method_9_code
def yX7_read : MethodName := ⟨RX7, "read", "()I"⟩
abbrev cX7_fault : ByteArray := prog_1_method_10_code
def yX7_fault : MethodName := ⟨RX7, "fault", "()I"⟩
abbrev cX7_records : ByteArray := prog_1_method_11_code
def yX7_records : MethodName := ⟨RX7, "records", "(I)I"⟩
abbrev cX7_has : ByteArray := prog_1_method_12_code
def yX7_has : MethodName := ⟨RX7, "has", "(III)I"⟩
abbrev cX7_at : ByteArray := prog_1_method_13_code
def yX7_at : MethodName := ⟨RX7, "at", "(III)I"⟩
abbrev cX7_number : ByteArray := prog_1_method_14_code
def yX7_number : MethodName := ⟨RX7, "number", "(III)J"⟩
abbrev cX7_begin : ByteArray := prog_1_method_15_code
def yX7_begin : MethodName := ⟨RX7, "begin", "(I)I"⟩
abbrev cX7_set : ByteArray := prog_1_method_16_code
def yX7_set : MethodName := ⟨RX7, "set", "(I)I"⟩
abbrev cX7_take : ByteArray := prog_1_method_17_code
def yX7_take : MethodName := ⟨RX7, "take", "(I)I"⟩
abbrev cX7_write : ByteArray := prog_1_method_18_code
def yX7_write : MethodName := ⟨RX7, "write", "()I"⟩
abbrev cX7_copy : ByteArray := prog_1_method_19_code
def yX7_copy : MethodName := ⟨RX7, "copy", "(I)I"⟩
abbrev cX7_tape : ByteArray := prog_1_method_20_code
def yX7_tape : MethodName := ⟨RX7, "tape", "(I)I"⟩
abbrev cX7_report : ByteArray := prog_1_method_21_code
def yX7_report : MethodName := ⟨RX7, "report", "(I)I"⟩
abbrev cX7_tick : ByteArray := prog_1_method_22_code
def yX7_tick : MethodName := ⟨RX7, "tick", "(I)I"⟩
abbrev cX7_track : ByteArray := prog_1_method_23_code
def yX7_track : MethodName := ⟨RX7, "track", "(II)I"⟩
abbrev cX7_count : ByteArray := prog_1_method_24_code
def yX7_count : MethodName := ⟨RX7, "count", "(I)I"⟩
abbrev cX7_categoryAt : ByteArray := prog_1_method_25_code
def yX7_categoryAt : MethodName := ⟨RX7, "categoryAt", "(I)LReportBlocks$Category;"⟩
abbrev cX7_indexOfNumber : ByteArray := prog_1_method_26_code
def yX7_indexOfNumber : MethodName := ⟨RX7, "indexOfNumber", "(I)I"⟩
abbrev cX7_isInUse : ByteArray := prog_1_method_27_code
def yX7_isInUse : MethodName := ⟨RX7, "isInUse", "(I)Z"⟩
abbrev cX7_isRecord : ByteArray := prog_1_method_28_code
def yX7_isRecord : MethodName := ⟨RX7, "isRecord", "(I)Z"⟩
abbrev cX7_isPlace : ByteArray := prog_1_method_29_code
def yX7_isPlace : MethodName := ⟨RX7, "isPlace", "(I)Z"⟩
abbrev cX7_isItem : ByteArray := prog_1_method_30_code
def yX7_isItem : MethodName := ⟨RX7, "isItem", "(II)Z"⟩
abbrev cX7_isOne : ByteArray := prog_1_method_31_code
def yX7_isOne : MethodName := ⟨RX7, "isOne", "([III)Z"⟩
abbrev cX7_passBlock : ByteArray := prog_1_method_32_code
def yX7_passBlock : MethodName := ⟨RX7, "passBlock", "()V"⟩
abbrev cX7_partNumber : ByteArray := prog_1_method_33_code
def yX7_partNumber : MethodName := ⟨RX7, "partNumber", "(LReportBlocks$Category;III)J"⟩
def RX8 : String := "ReportBlocksModel"
def TX8 : u_T := fun k => match k with
  | 0 => ("ReportBlocksModel", "categories", "I", false)
  | 1 => ("ReportBlocksModel", "numberOf", "[I", true)
  | 2 => ("ReportBlocksModel", "kind", "[I", true)
  | 3 => ("ReportBlocksModel", "bytes", "[I", true)
  | 4 => ("ReportBlocksModel", "parts", "[I", true)
  | 5 => ("ReportBlocksModel", "trackBy", "[I", true)
  | 6 => ("ReportBlocksModel", "whereBy", "[I", true)
  | 7 => ("ReportBlocksModel", "tape", "[I", true)
  | 8 => ("ReportBlocksModel", "size", "I", false)
  | 9 => ("ReportBlocksModel", "at", "I", false)
  | 10 => ("ReportBlocksModel", "end", "I", false)
  | 11 => ("ReportBlocksModel", "fault", "I", false)
  | 12 => ("ReportBlocksModel", "faultAt", "I", false)
  | 13 => ("ReportBlocksModel", "toldFault", "I", false)
  | 14 => ("ReportBlocksModel", "records", "I", false)
  | 15 => ("ReportBlocksModel", "recordsOf", "I", false)
  | 16 => ("ReportBlocksModel", "block", "[I", true)
  | 17 => ("ReportBlocksModel", "begins", "[I", true)
  | 18 => ("ReportBlocksModel", "itemAt", "[I", true)
  | 19 => ("ReportBlocksModel", "itemSize", "[I", true)
  | 20 => ("ReportBlocksModel", "draftRecords", "I", false)
  | 21 => ("ReportBlocksModel", "draftBegins", "[I", true)
  | 22 => ("ReportBlocksModel", "draftAt", "[I", true)
  | 23 => ("ReportBlocksModel", "draftSize", "[I", true)
  | 24 => ("ReportBlocksModel", "hasBit", "[Z", true)
  | 25 => ("ReportBlocksModel", "own", "I", false)
  | 26 => ("ReportBlocksModel", "ownSize", "[I", true)
  | 27 => ("ReportBlocksModel", "ownByte", "[I", true)
  | 28 => ("ReportBlocksModel", "tracks", "I", false)
  | 29 => ("ReportBlocksModel", "track", "[I", true)
  | 30 => ("ReportBlocksModel", "x", "[I", true)
  | 31 => ("ReportBlocksModel", "y", "[I", true)
  | 32 => ("ReportBlocksModel", "speedX", "[I", true)
  | 33 => ("ReportBlocksModel", "speedY", "[I", true)
  | 34 => ("ReportBlocksModel", "age", "[I", true)
  | 35 => ("ReportBlocksModel", "hits", "[I", true)
  | 36 => ("ReportBlocksModel", "lastX", "[I", true)
  | 37 => ("ReportBlocksModel", "lastY", "[I", true)
  | 38 => ("ReportBlocksModel", "lastTick", "[I", true)
  | 39 => ("ReportBlocksModel", "lost", "I", false)
  | 40 => ("ReportBlocksModel", "dropped", "I", false)
  | 41 => ("ReportBlocksModel", "ticks", "I", false)
  | 42 => ("ReportBlocksModel", "blocks", "I", false)
  | 43 => ("ReportBlocksModel", "bitsAt", "I", false)
  | 44 => ("ReportBlocksModel", "bitBytes", "I", false)
  | _ => ("ReportBlocksModel", "hasPlace", "[Z", true)
def tyX8 : Nat → FieldType := fun k => match k with
  | 0 => .int
  | 1 => .array .int
  | 2 => .array .int
  | 3 => .array .int
  | 4 => .array .int
  | 5 => .array .int
  | 6 => .array .int
  | 7 => .array .int
  | 8 => .int
  | 9 => .int
  | 10 => .int
  | 11 => .int
  | 12 => .int
  | 13 => .int
  | 14 => .int
  | 15 => .int
  | 16 => .array .int
  | 17 => .array .int
  | 18 => .array .int
  | 19 => .array .int
  | 20 => .int
  | 21 => .array .int
  | 22 => .array .int
  | 23 => .array .int
  | 24 => .array .boolean
  | 25 => .int
  | 26 => .array .int
  | 27 => .array .int
  | 28 => .int
  | 29 => .array .int
  | 30 => .array .int
  | 31 => .array .int
  | 32 => .array .int
  | 33 => .array .int
  | 34 => .array .int
  | 35 => .array .int
  | 36 => .array .int
  | 37 => .array .int
  | 38 => .array .int
  | 39 => .int
  | 40 => .int
  | 41 => .int
  | 42 => .int
  | 43 => .int
  | 44 => .int
  | _ => .array .boolean
abbrev wsX80 : List Cond := u_ws RX8 TX8 46
theorem nmX8 : ∀ a, a < 46 → ∀ b, b < 46 → a ≠ b → (TX8 a).2.1 ≠ (TX8 b).2.1 := by decide +kernel
theorem tyX8_ok : ∀ k, k < 46 → parseFieldDescriptor (TX8 k).2.2.1 = some (tyX8 k) := by decide +kernel
abbrev cX8_init : ByteArray := prog_10_method_1_code
def yX8_init : MethodName := ⟨RX8, "<init>", "()V"⟩
abbrev cX8_in : ByteArray := prog_10_method_3_code
def yX8_in : MethodName := ⟨RX8, "in", "(III)Z"⟩
abbrev cX8_isCategory : ByteArray := prog_10_method_4_code
def yX8_isCategory : MethodName := ⟨RX8, "isCategory", "(I)Z"⟩
abbrev cX8_isPlace : ByteArray := prog_10_method_5_code
def yX8_isPlace : MethodName := ⟨RX8, "isPlace", "(I)Z"⟩
abbrev cX8_category : ByteArray := prog_10_method_6_code
def yX8_category : MethodName := ⟨RX8, "category", "(I)I"⟩
abbrev cX8_find : ByteArray := prog_10_method_7_code
def yX8_find : MethodName := ⟨RX8, "find", "(I)I"⟩
abbrev cX8_becomes : ByteArray := prog_10_method_8_code
def yX8_becomes : MethodName := ⟨RX8, "becomes", "(IIII)V"⟩
abbrev cX8_isInUse : ByteArray := prog_10_method_9_code
def yX8_isInUse : MethodName := ⟨RX8, "isInUse", "(I)Z"⟩
abbrev cX8_item : ByteArray := prog_10_method_10_code
def yX8_item : MethodName := ⟨RX8, "item", "(IIII)I"⟩
abbrev cX8_part : ByteArray := prog_10_method_11_code
def yX8_part : MethodName := ⟨RX8, "part", "(IIII)I"⟩
abbrev cX8_isFixed : ByteArray := prog_10_method_12_code
def yX8_isFixed : MethodName := ⟨RX8, "isFixed", "(III)Z"⟩
abbrev cX8_tells : ByteArray := prog_10_method_13_code
def yX8_tells : MethodName := ⟨RX8, "tells", "(III)I"⟩
abbrev cX8_table : ByteArray := prog_10_method_14_code
def yX8_table : MethodName := ⟨RX8, "table", "(III)I"⟩
abbrev cX8_feed : ByteArray := prog_10_method_15_code
def yX8_feed : MethodName := ⟨RX8, "feed", "(JI)I"⟩
abbrev cX8_tear : ByteArray := prog_10_method_16_code
def yX8_tear : MethodName := ⟨RX8, "tear", "()I"⟩
abbrev cX8_tape : ByteArray := prog_10_method_17_code
def yX8_tape : MethodName := ⟨RX8, "tape", "(I)I"⟩
abbrev cX8_fails : ByteArray := prog_10_method_18_code
def yX8_fails : MethodName := ⟨RX8, "fails", "(II)V"⟩
abbrev cX8_needs : ByteArray := prog_10_method_19_code
def yX8_needs : MethodName := ⟨RX8, "needs", "(I)V"⟩
abbrev cX8_takes : ByteArray := prog_10_method_20_code
def yX8_takes : MethodName := ⟨RX8, "takes", "()I"⟩
abbrev cX8_isEmptyByte : ByteArray := prog_10_method_21_code
def yX8_isEmptyByte : MethodName := ⟨RX8, "isEmptyByte", "(I)Z"⟩
abbrev cX8_readBits : ByteArray := prog_10_method_22_code
def yX8_readBits : MethodName := ⟨RX8, "readBits", "(I)V"⟩
abbrev cX8_readMade : ByteArray := prog_10_method_23_code
def yX8_readMade : MethodName := ⟨RX8, "readMade", "(II)V"⟩
abbrev cX8_readGoing : ByteArray := prog_10_method_24_code
def yX8_readGoing : MethodName := ⟨RX8, "readGoing", "()V"⟩
abbrev cX8_readItem : ByteArray := prog_10_method_25_code
def yX8_readItem : MethodName := ⟨RX8, "readItem", "(II)V"⟩
abbrev cX8_readRecord : ByteArray := prog_10_method_26_code
def yX8_readRecord : MethodName := ⟨RX8, "readRecord", "(I)V"⟩
abbrev cX8_readBlock : ByteArray := prog_10_method_27_code
def yX8_readBlock : MethodName := ⟨RX8, "readBlock", "()I"⟩
abbrev cX8_read : ByteArray := prog_10_method_28_code
def yX8_read : MethodName := ⟨RX8, "read", "()I"⟩
abbrev cX8_fault : ByteArray := prog_10_method_29_code
def yX8_fault : MethodName := ⟨RX8, "fault", "()I"⟩
abbrev cX8_records : ByteArray := prog_10_method_30_code
def yX8_records : MethodName := ⟨RX8, "records", "(I)I"⟩
abbrev cX8_isRecord : ByteArray := prog_10_method_31_code
def yX8_isRecord : MethodName := ⟨RX8, "isRecord", "(I)Z"⟩
abbrev cX8_has : ByteArray := prog_10_method_32_code
def yX8_has : MethodName := ⟨RX8, "has", "(III)I"⟩
abbrev cX8_at : ByteArray := prog_10_method_33_code
def yX8_at : MethodName := ⟨RX8, "at", "(III)I"⟩
abbrev cX8_together : ByteArray := prog_10_method_34_code
def yX8_together : MethodName := ⟨RX8, "together", "(II)J"⟩
abbrev cX8_ofMade : ByteArray := prog_10_method_35_code
def yX8_ofMade : MethodName := ⟨RX8, "ofMade", "(IIII)J"⟩
abbrev cX8_number : ByteArray := prog_10_method_36_code
def yX8_number : MethodName := ⟨RX8, "number", "(III)J"⟩
abbrev cX8_begin : ByteArray := prog_10_method_37_code
def yX8_begin : MethodName := ⟨RX8, "begin", "(I)I"⟩
abbrev cX8_set : ByteArray := prog_10_method_38_code
def yX8_set : MethodName := ⟨RX8, "set", "(I)I"⟩
abbrev cX8_take : ByteArray := prog_10_method_39_code
def yX8_take : MethodName := ⟨RX8, "take", "(I)I"⟩
abbrev cX8_put : ByteArray := prog_10_method_40_code
def yX8_put : MethodName := ⟨RX8, "put", "(I)V"⟩
abbrev cX8_write : ByteArray := prog_10_method_41_code
def yX8_write : MethodName := ⟨RX8, "write", "()I"⟩
abbrev cX8_copy : ByteArray := prog_10_method_42_code
def yX8_copy : MethodName := ⟨RX8, "copy", "(I)I"⟩
abbrev cX8_signed : ByteArray := prog_10_method_43_code
def yX8_signed : MethodName := ⟨RX8, "signed", "(J)I"⟩
abbrev cX8_trackOf : ByteArray := prog_10_method_44_code
def yX8_trackOf : MethodName := ⟨RX8, "trackOf", "(I)I"⟩
abbrev cX8_report : ByteArray := prog_10_method_45_code
def yX8_report : MethodName := ⟨RX8, "report", "(I)I"⟩
abbrev cX8_moves : ByteArray := prog_10_method_46_code
def yX8_moves : MethodName := ⟨RX8, "moves", "(II)V"⟩
abbrev cX8_tick : ByteArray := prog_10_method_47_code
def yX8_tick : MethodName := ⟨RX8, "tick", "(I)I"⟩
abbrev cX8_track : ByteArray := prog_10_method_48_code
def yX8_track : MethodName := ⟨RX8, "track", "(II)I"⟩
abbrev cX8_count : ByteArray := prog_10_method_49_code
def yX8_count : MethodName := ⟨RX8, "count", "(I)I"⟩
def RJ9 : String := "java/lang/Math"
def TJ9 : u_T := fun k => match k with
  | _ => ("", "", "", false)
def tyJ9 : Nat → FieldType := fun k => match k with
  | _ => .int
abbrev wsJ90 : List Cond := u_ws RJ9 TJ9 0
theorem nmJ9 : ∀ a, a < 0 → ∀ b, b < 0 → a ≠ b → (TJ9 a).2.1 ≠ (TJ9 b).2.1 := by decide +kernel
theorem tyJ9_ok : ∀ k, k < 0 → parseFieldDescriptor (TJ9 k).2.2.1 = some (tyJ9 k) := by decide +kernel
abbrev cJ9_max_7cf53 : ByteArray := prog_11_method_65_code
def yJ9_max_7cf53 : MethodName := ⟨RJ9, "max", "(II)I"⟩
def RJ10 : String := "java/lang/System"
def TJ10 : u_T := fun k => match k with
  | _ => ("", "", "", false)
def tyJ10 : Nat → FieldType := fun k => match k with
  | _ => .int
abbrev wsJ100 : List Cond := u_ws RJ10 TJ10 0
theorem nmJ10 : ∀ a, a < 0 → ∀ b, b < 0 → a ≠ b → (TJ10 a).2.1 ≠ (TJ10 b).2.1 := by decide +kernel
theorem tyJ10_ok : ∀ k, k < 0 → parseFieldDescriptor (TJ10 k).2.2.1 = some (tyJ10 k) := by decide +kernel
def RJ7 : String := "java/util/Arrays"
def TJ7 : u_T := fun k => match k with
  | _ => ("", "", "", false)
def tyJ7 : Nat → FieldType := fun k => match k with
  | _ => .int
abbrev wsJ70 : List Cond := u_ws RJ7 TJ7 0
theorem nmJ7 : ∀ a, a < 0 → ∀ b, b < 0 → a ≠ b → (TJ7 a).2.1 ≠ (TJ7 b).2.1 := by decide +kernel
theorem tyJ7_ok : ∀ k, k < 0 → parseFieldDescriptor (TJ7 k).2.2.1 = some (tyJ7 k) := by decide +kernel
abbrev cJ7_rangeCheck_23922 : ByteArray := prog_13_method_30_code
def yJ7_rangeCheck_23922 : MethodName := ⟨RJ7, "rangeCheck", "(III)V"⟩
abbrev cJ7_fill_53178 : ByteArray := prog_13_method_103_code
def yJ7_fill_53178 : MethodName := ⟨RJ7, "fill", "([II)V"⟩
abbrev cJ7_fill_fda19 : ByteArray := prog_13_method_104_code
def yJ7_fill_fda19 : MethodName := ⟨RJ7, "fill", "([IIII)V"⟩
def RL : String := "ReportBlocksLaw"
abbrev cL_law : ByteArray := code
def yL_law : MethodName := ⟨RL, "law", "([I)Z"⟩
abbrev vwCl : List vw_C := [(RX0, TX0, 7), (RX1, TX1, 6), (RX2, TX2, 3), (RX3, TX3, 6), (RX4, TX4, 2), (RX5, TX5, 9), (RX6, TX6, 5), (RX7, TX7, 10), (RX8, TX8, 46)]
end
section
/-! words of the tables, by what they are -/
def GB : List Cond := lw_tbl.filter goodWord
theorem gb_t {w : Cond} (h : w ∈ tables_1) (g : goodWord w = true) : w ∈ GB := List.mem_filter.mpr ⟨List.mem_append_right _ h, g⟩
theorem gb_p {w : Cond} (h : w ∈ k2_sels lw_privs) (g : goodWord w = true) : w ∈ GB := List.mem_filter.mpr ⟨List.mem_append_left _ h, g⟩
set_option maxRecDepth 100000 in
theorem wn_L : (Jvm.Cond.initialized "ReportBlocksLaw") ∈ GB := gb_t (List.mem_of_getElem? (i := 0) rfl) rfl
set_option maxRecDepth 100000 in
theorem wn_X7 : (Jvm.Cond.initialized "ReportBlocks") ∈ GB := gb_t (List.mem_of_getElem? (i := 1) rfl) rfl
set_option maxRecDepth 100000 in
theorem wn_X4 : (Jvm.Cond.initialized "ReportBlocks$Tape") ∈ GB := gb_t (List.mem_of_getElem? (i := 2) rfl) rfl
set_option maxRecDepth 100000 in
theorem wn_X3 : (Jvm.Cond.initialized "ReportBlocks$Reader") ∈ GB := gb_t (List.mem_of_getElem? (i := 3) rfl) rfl
set_option maxRecDepth 100000 in
theorem wn_X0 : (Jvm.Cond.initialized "ReportBlocks$Block") ∈ GB := gb_t (List.mem_of_getElem? (i := 4) rfl) rfl
set_option maxRecDepth 100000 in
theorem wn_X2 : (Jvm.Cond.initialized "ReportBlocks$OwnRecord") ∈ GB := gb_t (List.mem_of_getElem? (i := 5) rfl) rfl
set_option maxRecDepth 100000 in
theorem wn_X6 : (Jvm.Cond.initialized "ReportBlocks$TrackRow") ∈ GB := gb_t (List.mem_of_getElem? (i := 6) rfl) rfl
set_option maxRecDepth 100000 in
theorem wn_X5 : (Jvm.Cond.initialized "ReportBlocks$Track") ∈ GB := gb_t (List.mem_of_getElem? (i := 7) rfl) rfl
set_option maxRecDepth 100000 in
theorem wn_X8 : (Jvm.Cond.initialized "ReportBlocksModel") ∈ GB := gb_t (List.mem_of_getElem? (i := 8) rfl) rfl
set_option maxRecDepth 100000 in
theorem wn_X1 : (Jvm.Cond.initialized "ReportBlocks$Category") ∈ GB := gb_t (List.mem_of_getElem? (i := 9) rfl) rfl
set_option maxRecDepth 100000 in
theorem wn_J7 : (Jvm.Cond.initialized "java/util/Arrays") ∈ GB := gb_t (List.mem_of_getElem? (i := 10) rfl) rfl
set_option maxRecDepth 100000 in
theorem wn_J10 : (Jvm.Cond.initialized "java/lang/System") ∈ GB := gb_t (List.mem_of_getElem? (i := 11) rfl) rfl
set_option maxRecDepth 100000 in
theorem wn_J9 : (Jvm.Cond.initialized "java/lang/Math") ∈ GB := gb_t (List.mem_of_getElem? (i := 12) rfl) rfl
set_option maxRecDepth 100000 in
theorem wk_L_7 : (Jvm.Cond.classLink "ReportBlocksLaw" (7 : Nat) "ReportBlocks") ∈ GB := gb_t (List.mem_of_getElem? (i := 13) rfl) rfl
set_option maxRecDepth 100000 in
theorem wb_X7 : (Jvm.Cond.instantiable "ReportBlocks" (10 : Nat)) ∈ GB := gb_t (List.mem_of_getElem? (i := 14) rfl) rfl
set_option maxRecDepth 100000 in
theorem wl_L_9 : (Jvm.Cond.methodLink "ReportBlocksLaw" (9 : Nat) ({ cls := "ReportBlocks", name := "<init>", desc := "()V" } : Jvm.MethodName)) ∈ GB := gb_t (List.mem_of_getElem? (i := 15) rfl) rfl
set_option maxRecDepth 100000 in
theorem wi_X7_init : (Jvm.Cond.instanceMethod ({ cls := "ReportBlocks", name := "<init>", desc := "()V" } : Jvm.MethodName)) ∈ GB := gb_t (List.mem_of_getElem? (i := 16) rfl) rfl
set_option maxRecDepth 100000 in
theorem wc_X7_init : Cond.code yX7_init cX7_init 1 (Option.none : Option Jvm.ClassFile.FieldType) ∈ GB := gb_t (List.mem_of_getElem? (i := 17) rfl) rfl
set_option maxRecDepth 100000 in
theorem wl_X7_3 : (Jvm.Cond.methodLink "ReportBlocks" (3 : Nat) ({ cls := "java/lang/Object", name := "<init>", desc := "()V" } : Jvm.MethodName)) ∈ GB := gb_t (List.mem_of_getElem? (i := 18) rfl) rfl
set_option maxRecDepth 100000 in
theorem wi_objInit : (Jvm.Cond.instanceMethod ({ cls := "java/lang/Object", name := "<init>", desc := "()V" } : Jvm.MethodName)) ∈ GB := gb_t (List.mem_of_getElem? (i := 19) rfl) rfl
set_option maxRecDepth 100000 in
theorem wc_objInit : (Jvm.Cond.code ({ cls := "java/lang/Object", name := "<init>", desc := "()V" } : Jvm.MethodName) object_method_1_code (1 : Nat) (Option.none : Option Jvm.ClassFile.FieldType)) ∈ GB := gb_t (List.mem_of_getElem? (i := 20) rfl) rfl
set_option maxRecDepth 100000 in
theorem wk_X7_9 : (Jvm.Cond.classLink "ReportBlocks" (9 : Nat) "ReportBlocks$Category") ∈ GB := gb_t (List.mem_of_getElem? (i := 21) rfl) rfl
set_option maxRecDepth 100000 in
theorem wq_X1 : (Jvm.Cond.arrayOver (Jvm.ClassFile.FieldType.object "ReportBlocks$Category")) ∈ lw_tbl := List.mem_append_right _ (List.mem_of_getElem? (i := 22) rfl)
set_option maxRecDepth 100000 in
theorem wk_X7_15 : (Jvm.Cond.classLink "ReportBlocks" (15 : Nat) "ReportBlocks$Tape") ∈ GB := gb_t (List.mem_of_getElem? (i := 23) rfl) rfl
set_option maxRecDepth 100000 in
theorem wb_X4 : (Jvm.Cond.instantiable "ReportBlocks$Tape" (2 : Nat)) ∈ GB := gb_t (List.mem_of_getElem? (i := 24) rfl) rfl
set_option maxRecDepth 100000 in
theorem wl_X7_17 : (Jvm.Cond.methodLink "ReportBlocks" (17 : Nat) ({ cls := "ReportBlocks$Tape", name := "<init>", desc := "()V" } : Jvm.MethodName)) ∈ GB := gb_t (List.mem_of_getElem? (i := 25) rfl) rfl
set_option maxRecDepth 100000 in
theorem wi_X4_init : (Jvm.Cond.instanceMethod ({ cls := "ReportBlocks$Tape", name := "<init>", desc := "()V" } : Jvm.MethodName)) ∈ GB := gb_t (List.mem_of_getElem? (i := 26) rfl) rfl
set_option maxRecDepth 100000 in
theorem wc_X4_init : Cond.code yX4_init cX4_init 1 (Option.none : Option Jvm.ClassFile.FieldType) ∈ GB := gb_t (List.mem_of_getElem? (i := 27) rfl) rfl
set_option maxRecDepth 100000 in
theorem wl_X4_3 : (Jvm.Cond.methodLink "ReportBlocks$Tape" (3 : Nat) ({ cls := "java/lang/Object", name := "<init>", desc := "()V" } : Jvm.MethodName)) ∈ GB := gb_t (List.mem_of_getElem? (i := 28) rfl) rfl
set_option maxRecDepth 100000 in
theorem wf_X3_9 : (Jvm.Cond.fieldLink "ReportBlocks$Reader" (9 : Nat) "ReportBlocks$Tape" "bytes" "[I") ∈ GB := gb_t (List.mem_of_getElem? (i := 29) rfl) rfl
set_option maxRecDepth 100000 in
theorem wf_X4_9 : (Jvm.Cond.fieldLink "ReportBlocks$Tape" (9 : Nat) "ReportBlocks$Tape" "bytes" "[I") ∈ GB := gb_t (List.mem_of_getElem? (i := 30) rfl) rfl
set_option maxRecDepth 100000 in
theorem wf_X7_135 : (Jvm.Cond.fieldLink "ReportBlocks" (135 : Nat) "ReportBlocks$Tape" "bytes" "[I") ∈ GB := gb_t (List.mem_of_getElem? (i := 31) rfl) rfl
set_option maxRecDepth 100000 in
theorem wf_X4_15 : (Jvm.Cond.fieldLink "ReportBlocks$Tape" (15 : Nat) "ReportBlocks$Tape" "size" "I") ∈ GB := gb_t (List.mem_of_getElem? (i := 32) rfl) rfl
set_option maxRecDepth 100000 in
theorem wf_X7_114 : (Jvm.Cond.fieldLink "ReportBlocks" (114 : Nat) "ReportBlocks$Tape" "size" "I") ∈ GB := gb_t (List.mem_of_getElem? (i := 33) rfl) rfl
set_option maxRecDepth 100000 in
theorem wy_X4_bytes : (Jvm.Cond.laysFinal "ReportBlocks$Tape" "ReportBlocks$Tape" "bytes" "[I") ∈ GB := gb_t (List.mem_of_getElem? (i := 34) rfl) rfl
set_option maxRecDepth 100000 in
theorem wy_X4_size : (Jvm.Cond.lays "ReportBlocks$Tape" "ReportBlocks$Tape" "size" "I") ∈ GB := gb_t (List.mem_of_getElem? (i := 36) rfl) rfl
set_option maxRecDepth 100000 in
theorem wr_int : (Jvm.Cond.arrayClass Jvm.ClassFile.FieldType.int) ∈ GB := gb_t (List.mem_of_getElem? (i := 39) rfl) rfl
set_option maxRecDepth 100000 in
theorem wk_X7_22 : (Jvm.Cond.classLink "ReportBlocks" (22 : Nat) "ReportBlocks$Reader") ∈ GB := gb_t (List.mem_of_getElem? (i := 40) rfl) rfl
set_option maxRecDepth 100000 in
theorem wb_X3 : (Jvm.Cond.instantiable "ReportBlocks$Reader" (6 : Nat)) ∈ GB := gb_t (List.mem_of_getElem? (i := 41) rfl) rfl
set_option maxRecDepth 100000 in
theorem wl_X7_24 : (Jvm.Cond.methodLink "ReportBlocks" (24 : Nat) ({ cls := "ReportBlocks$Reader", name := "<init>", desc := "(LReportBlocks$Tape;)V" } : Jvm.MethodName)) ∈ GB := gb_t (List.mem_of_getElem? (i := 42) rfl) rfl
set_option maxRecDepth 100000 in
theorem wi_X3_init : (Jvm.Cond.instanceMethod ({ cls := "ReportBlocks$Reader", name := "<init>", desc := "(LReportBlocks$Tape;)V" } : Jvm.MethodName)) ∈ GB := gb_t (List.mem_of_getElem? (i := 43) rfl) rfl
set_option maxRecDepth 100000 in
theorem wc_X3_init : Cond.code yX3_init cX3_init 2 (Option.none : Option Jvm.ClassFile.FieldType) ∈ GB := gb_t (List.mem_of_getElem? (i := 44) rfl) rfl
set_option maxRecDepth 100000 in
theorem wl_X3_3 : (Jvm.Cond.methodLink "ReportBlocks$Reader" (3 : Nat) ({ cls := "java/lang/Object", name := "<init>", desc := "()V" } : Jvm.MethodName)) ∈ GB := gb_t (List.mem_of_getElem? (i := 45) rfl) rfl
set_option maxRecDepth 100000 in
theorem wf_X3_15 : (Jvm.Cond.fieldLink "ReportBlocks$Reader" (15 : Nat) "ReportBlocks$Reader" "bytes" "[I") ∈ GB := gb_t (List.mem_of_getElem? (i := 46) rfl) rfl
set_option maxRecDepth 100000 in
theorem wf_X3_59 : (Jvm.Cond.fieldLink "ReportBlocks$Reader" (59 : Nat) "ReportBlocks$Reader" "table" "LReportBlocks$Category;") ∈ GB := gb_t (List.mem_of_getElem? (i := 47) rfl) rfl
set_option maxRecDepth 100000 in
theorem wf_X7_183 : (Jvm.Cond.fieldLink "ReportBlocks" (183 : Nat) "ReportBlocks$Reader" "table" "LReportBlocks$Category;") ∈ GB := gb_t (List.mem_of_getElem? (i := 48) rfl) rfl
set_option maxRecDepth 100000 in
theorem wf_X3_18 : (Jvm.Cond.fieldLink "ReportBlocks$Reader" (18 : Nat) "ReportBlocks$Reader" "next" "I") ∈ GB := gb_t (List.mem_of_getElem? (i := 49) rfl) rfl
set_option maxRecDepth 100000 in
theorem wf_X7_190 : (Jvm.Cond.fieldLink "ReportBlocks" (190 : Nat) "ReportBlocks$Reader" "next" "I") ∈ GB := gb_t (List.mem_of_getElem? (i := 50) rfl) rfl
set_option maxRecDepth 100000 in
theorem wf_X3_22 : (Jvm.Cond.fieldLink "ReportBlocks$Reader" (22 : Nat) "ReportBlocks$Reader" "end" "I") ∈ GB := gb_t (List.mem_of_getElem? (i := 51) rfl) rfl
set_option maxRecDepth 100000 in
theorem wf_X7_138 : (Jvm.Cond.fieldLink "ReportBlocks" (138 : Nat) "ReportBlocks$Reader" "end" "I") ∈ GB := gb_t (List.mem_of_getElem? (i := 52) rfl) rfl
set_option maxRecDepth 100000 in
theorem wf_X3_25 : (Jvm.Cond.fieldLink "ReportBlocks$Reader" (25 : Nat) "ReportBlocks$Reader" "fault" "I") ∈ GB := gb_t (List.mem_of_getElem? (i := 53) rfl) rfl
set_option maxRecDepth 100000 in
theorem wf_X7_126 : (Jvm.Cond.fieldLink "ReportBlocks" (126 : Nat) "ReportBlocks$Reader" "fault" "I") ∈ GB := gb_t (List.mem_of_getElem? (i := 54) rfl) rfl
set_option maxRecDepth 100000 in
theorem wf_X3_28 : (Jvm.Cond.fieldLink "ReportBlocks$Reader" (28 : Nat) "ReportBlocks$Reader" "faultPlace" "I") ∈ GB := gb_t (List.mem_of_getElem? (i := 55) rfl) rfl
set_option maxRecDepth 100000 in
theorem wf_X7_132 : (Jvm.Cond.fieldLink "ReportBlocks" (132 : Nat) "ReportBlocks$Reader" "faultPlace" "I") ∈ GB := gb_t (List.mem_of_getElem? (i := 56) rfl) rfl
set_option maxRecDepth 100000 in
theorem wy_X3_bytes : (Jvm.Cond.laysFinal "ReportBlocks$Reader" "ReportBlocks$Reader" "bytes" "[I") ∈ GB := gb_t (List.mem_of_getElem? (i := 57) rfl) rfl
set_option maxRecDepth 100000 in
theorem wy_X3_table : (Jvm.Cond.lays "ReportBlocks$Reader" "ReportBlocks$Reader" "table" "LReportBlocks$Category;") ∈ GB := gb_t (List.mem_of_getElem? (i := 59) rfl) rfl
set_option maxRecDepth 100000 in
theorem wy_X3_next : (Jvm.Cond.lays "ReportBlocks$Reader" "ReportBlocks$Reader" "next" "I") ∈ GB := gb_t (List.mem_of_getElem? (i := 61) rfl) rfl
set_option maxRecDepth 100000 in
theorem wy_X3_end : (Jvm.Cond.lays "ReportBlocks$Reader" "ReportBlocks$Reader" "end" "I") ∈ GB := gb_t (List.mem_of_getElem? (i := 63) rfl) rfl
set_option maxRecDepth 100000 in
theorem wy_X3_fault : (Jvm.Cond.lays "ReportBlocks$Reader" "ReportBlocks$Reader" "fault" "I") ∈ GB := gb_t (List.mem_of_getElem? (i := 65) rfl) rfl
set_option maxRecDepth 100000 in
theorem wy_X3_faultPlace : (Jvm.Cond.lays "ReportBlocks$Reader" "ReportBlocks$Reader" "faultPlace" "I") ∈ GB := gb_t (List.mem_of_getElem? (i := 67) rfl) rfl
set_option maxRecDepth 100000 in
theorem wk_X7_31 : (Jvm.Cond.classLink "ReportBlocks" (31 : Nat) "ReportBlocks$Block") ∈ GB := gb_t (List.mem_of_getElem? (i := 70) rfl) rfl
set_option maxRecDepth 100000 in
theorem wb_X0 : (Jvm.Cond.instantiable "ReportBlocks$Block" (7 : Nat)) ∈ GB := gb_t (List.mem_of_getElem? (i := 71) rfl) rfl
set_option maxRecDepth 100000 in
theorem wl_X7_33 : (Jvm.Cond.methodLink "ReportBlocks" (33 : Nat) ({ cls := "ReportBlocks$Block", name := "<init>", desc := "()V" } : Jvm.MethodName)) ∈ GB := gb_t (List.mem_of_getElem? (i := 72) rfl) rfl
set_option maxRecDepth 100000 in
theorem wi_X0_init : (Jvm.Cond.instanceMethod ({ cls := "ReportBlocks$Block", name := "<init>", desc := "()V" } : Jvm.MethodName)) ∈ GB := gb_t (List.mem_of_getElem? (i := 73) rfl) rfl
set_option maxRecDepth 100000 in
theorem wc_X0_init : Cond.code yX0_init cX0_init 1 (Option.none : Option Jvm.ClassFile.FieldType) ∈ GB := gb_t (List.mem_of_getElem? (i := 74) rfl) rfl
set_option maxRecDepth 100000 in
theorem wl_X0_3 : (Jvm.Cond.methodLink "ReportBlocks$Block" (3 : Nat) ({ cls := "java/lang/Object", name := "<init>", desc := "()V" } : Jvm.MethodName)) ∈ GB := gb_t (List.mem_of_getElem? (i := 75) rfl) rfl
set_option maxRecDepth 100000 in
theorem wf_X0_9 : (Jvm.Cond.fieldLink "ReportBlocks$Block" (9 : Nat) "ReportBlocks$Block" "category" "I") ∈ GB := gb_t (List.mem_of_getElem? (i := 76) rfl) rfl
set_option maxRecDepth 100000 in
theorem wf_X7_154 : (Jvm.Cond.fieldLink "ReportBlocks" (154 : Nat) "ReportBlocks$Block" "category" "I") ∈ GB := gb_t (List.mem_of_getElem? (i := 77) rfl) rfl
set_option maxRecDepth 100000 in
theorem wf_X0_28 : (Jvm.Cond.fieldLink "ReportBlocks$Block" (28 : Nat) "ReportBlocks$Block" "count" "I") ∈ GB := gb_t (List.mem_of_getElem? (i := 78) rfl) rfl
set_option maxRecDepth 100000 in
theorem wf_X7_151 : (Jvm.Cond.fieldLink "ReportBlocks" (151 : Nat) "ReportBlocks$Block" "count" "I") ∈ GB := gb_t (List.mem_of_getElem? (i := 79) rfl) rfl
set_option maxRecDepth 100000 in
theorem wf_X0_15 : (Jvm.Cond.fieldLink "ReportBlocks$Block" (15 : Nat) "ReportBlocks$Block" "bytes" "[I") ∈ GB := gb_t (List.mem_of_getElem? (i := 80) rfl) rfl
set_option maxRecDepth 100000 in
theorem wf_X7_166 : (Jvm.Cond.fieldLink "ReportBlocks" (166 : Nat) "ReportBlocks$Block" "bytes" "[I") ∈ GB := gb_t (List.mem_of_getElem? (i := 81) rfl) rfl
set_option maxRecDepth 100000 in
theorem wf_X0_43 : (Jvm.Cond.fieldLink "ReportBlocks$Block" (43 : Nat) "ReportBlocks$Block" "size" "I") ∈ GB := gb_t (List.mem_of_getElem? (i := 82) rfl) rfl
set_option maxRecDepth 100000 in
theorem wf_X0_19 : (Jvm.Cond.fieldLink "ReportBlocks$Block" (19 : Nat) "ReportBlocks$Block" "starts" "[I") ∈ GB := gb_t (List.mem_of_getElem? (i := 83) rfl) rfl
set_option maxRecDepth 100000 in
theorem wf_X7_226 : (Jvm.Cond.fieldLink "ReportBlocks" (226 : Nat) "ReportBlocks$Block" "starts" "[I") ∈ GB := gb_t (List.mem_of_getElem? (i := 84) rfl) rfl
set_option maxRecDepth 100000 in
theorem wf_X0_22 : (Jvm.Cond.fieldLink "ReportBlocks$Block" (22 : Nat) "ReportBlocks$Block" "begins" "[I") ∈ GB := gb_t (List.mem_of_getElem? (i := 85) rfl) rfl
set_option maxRecDepth 100000 in
theorem wf_X0_25 : (Jvm.Cond.fieldLink "ReportBlocks$Block" (25 : Nat) "ReportBlocks$Block" "sizes" "[I") ∈ GB := gb_t (List.mem_of_getElem? (i := 86) rfl) rfl
set_option maxRecDepth 100000 in
theorem wy_X0_category : (Jvm.Cond.lays "ReportBlocks$Block" "ReportBlocks$Block" "category" "I") ∈ GB := gb_t (List.mem_of_getElem? (i := 87) rfl) rfl
set_option maxRecDepth 100000 in
theorem wy_X0_count : (Jvm.Cond.lays "ReportBlocks$Block" "ReportBlocks$Block" "count" "I") ∈ GB := gb_t (List.mem_of_getElem? (i := 89) rfl) rfl
set_option maxRecDepth 100000 in
theorem wy_X0_bytes : (Jvm.Cond.laysFinal "ReportBlocks$Block" "ReportBlocks$Block" "bytes" "[I") ∈ GB := gb_t (List.mem_of_getElem? (i := 91) rfl) rfl
set_option maxRecDepth 100000 in
theorem wy_X0_size : (Jvm.Cond.lays "ReportBlocks$Block" "ReportBlocks$Block" "size" "I") ∈ GB := gb_t (List.mem_of_getElem? (i := 93) rfl) rfl
set_option maxRecDepth 100000 in
theorem wy_X0_starts : (Jvm.Cond.laysFinal "ReportBlocks$Block" "ReportBlocks$Block" "starts" "[I") ∈ GB := gb_t (List.mem_of_getElem? (i := 95) rfl) rfl
set_option maxRecDepth 100000 in
theorem wy_X0_begins : (Jvm.Cond.laysFinal "ReportBlocks$Block" "ReportBlocks$Block" "begins" "[I") ∈ GB := gb_t (List.mem_of_getElem? (i := 97) rfl) rfl
set_option maxRecDepth 100000 in
theorem wy_X0_sizes : (Jvm.Cond.laysFinal "ReportBlocks$Block" "ReportBlocks$Block" "sizes" "[I") ∈ GB := gb_t (List.mem_of_getElem? (i := 99) rfl) rfl
set_option maxRecDepth 100000 in
theorem wk_X7_41 : (Jvm.Cond.classLink "ReportBlocks" (41 : Nat) "ReportBlocks$OwnRecord") ∈ GB := gb_t (List.mem_of_getElem? (i := 102) rfl) rfl
set_option maxRecDepth 100000 in
theorem wb_X2 : (Jvm.Cond.instantiable "ReportBlocks$OwnRecord" (3 : Nat)) ∈ GB := gb_t (List.mem_of_getElem? (i := 103) rfl) rfl
set_option maxRecDepth 100000 in
theorem wl_X7_43 : (Jvm.Cond.methodLink "ReportBlocks" (43 : Nat) ({ cls := "ReportBlocks$OwnRecord", name := "<init>", desc := "()V" } : Jvm.MethodName)) ∈ GB := gb_t (List.mem_of_getElem? (i := 104) rfl) rfl
set_option maxRecDepth 100000 in
theorem wi_X2_init : (Jvm.Cond.instanceMethod ({ cls := "ReportBlocks$OwnRecord", name := "<init>", desc := "()V" } : Jvm.MethodName)) ∈ GB := gb_t (List.mem_of_getElem? (i := 105) rfl) rfl
set_option maxRecDepth 100000 in
theorem wc_X2_init : Cond.code yX2_init cX2_init 1 (Option.none : Option Jvm.ClassFile.FieldType) ∈ GB := gb_t (List.mem_of_getElem? (i := 106) rfl) rfl
set_option maxRecDepth 100000 in
theorem wl_X2_3 : (Jvm.Cond.methodLink "ReportBlocks$OwnRecord" (3 : Nat) ({ cls := "java/lang/Object", name := "<init>", desc := "()V" } : Jvm.MethodName)) ∈ GB := gb_t (List.mem_of_getElem? (i := 107) rfl) rfl
set_option maxRecDepth 100000 in
theorem wf_X2_9 : (Jvm.Cond.fieldLink "ReportBlocks$OwnRecord" (9 : Nat) "ReportBlocks$OwnRecord" "category" "I") ∈ GB := gb_t (List.mem_of_getElem? (i := 108) rfl) rfl
set_option maxRecDepth 100000 in
theorem wf_X7_182 : (Jvm.Cond.fieldLink "ReportBlocks" (182 : Nat) "ReportBlocks$OwnRecord" "category" "I") ∈ GB := gb_t (List.mem_of_getElem? (i := 109) rfl) rfl
set_option maxRecDepth 100000 in
theorem wf_X2_15 : (Jvm.Cond.fieldLink "ReportBlocks$OwnRecord" (15 : Nat) "ReportBlocks$OwnRecord" "bytes" "[I") ∈ GB := gb_t (List.mem_of_getElem? (i := 110) rfl) rfl
set_option maxRecDepth 100000 in
theorem wf_X7_215 : (Jvm.Cond.fieldLink "ReportBlocks" (215 : Nat) "ReportBlocks$OwnRecord" "bytes" "[I") ∈ GB := gb_t (List.mem_of_getElem? (i := 111) rfl) rfl
set_option maxRecDepth 100000 in
theorem wf_X2_19 : (Jvm.Cond.fieldLink "ReportBlocks$OwnRecord" (19 : Nat) "ReportBlocks$OwnRecord" "sizes" "[I") ∈ GB := gb_t (List.mem_of_getElem? (i := 112) rfl) rfl
set_option maxRecDepth 100000 in
theorem wf_X7_196 : (Jvm.Cond.fieldLink "ReportBlocks" (196 : Nat) "ReportBlocks$OwnRecord" "sizes" "[I") ∈ GB := gb_t (List.mem_of_getElem? (i := 113) rfl) rfl
set_option maxRecDepth 100000 in
theorem wy_X2_category : (Jvm.Cond.lays "ReportBlocks$OwnRecord" "ReportBlocks$OwnRecord" "category" "I") ∈ GB := gb_t (List.mem_of_getElem? (i := 114) rfl) rfl
set_option maxRecDepth 100000 in
theorem wy_X2_bytes : (Jvm.Cond.laysFinal "ReportBlocks$OwnRecord" "ReportBlocks$OwnRecord" "bytes" "[I") ∈ GB := gb_t (List.mem_of_getElem? (i := 116) rfl) rfl
set_option maxRecDepth 100000 in
theorem wy_X2_sizes : (Jvm.Cond.laysFinal "ReportBlocks$OwnRecord" "ReportBlocks$OwnRecord" "sizes" "[I") ∈ GB := gb_t (List.mem_of_getElem? (i := 118) rfl) rfl
set_option maxRecDepth 100000 in
theorem wk_X7_48 : (Jvm.Cond.classLink "ReportBlocks" (48 : Nat) "ReportBlocks$TrackRow") ∈ GB := gb_t (List.mem_of_getElem? (i := 121) rfl) rfl
set_option maxRecDepth 100000 in
theorem wb_X6 : (Jvm.Cond.instantiable "ReportBlocks$TrackRow" (5 : Nat)) ∈ GB := gb_t (List.mem_of_getElem? (i := 122) rfl) rfl
set_option maxRecDepth 100000 in
theorem wl_X7_50 : (Jvm.Cond.methodLink "ReportBlocks" (50 : Nat) ({ cls := "ReportBlocks$TrackRow", name := "<init>", desc := "()V" } : Jvm.MethodName)) ∈ GB := gb_t (List.mem_of_getElem? (i := 123) rfl) rfl
set_option maxRecDepth 100000 in
theorem wi_X6_init : (Jvm.Cond.instanceMethod ({ cls := "ReportBlocks$TrackRow", name := "<init>", desc := "()V" } : Jvm.MethodName)) ∈ GB := gb_t (List.mem_of_getElem? (i := 124) rfl) rfl
set_option maxRecDepth 100000 in
theorem wc_X6_init : Cond.code yX6_init cX6_init 2 (Option.none : Option Jvm.ClassFile.FieldType) ∈ GB := gb_t (List.mem_of_getElem? (i := 125) rfl) rfl
set_option maxRecDepth 100000 in
theorem wl_X6_3 : (Jvm.Cond.methodLink "ReportBlocks$TrackRow" (3 : Nat) ({ cls := "java/lang/Object", name := "<init>", desc := "()V" } : Jvm.MethodName)) ∈ GB := gb_t (List.mem_of_getElem? (i := 126) rfl) rfl
set_option maxRecDepth 100000 in
theorem wk_X6_9 : (Jvm.Cond.classLink "ReportBlocks$TrackRow" (9 : Nat) "ReportBlocks$Track") ∈ GB := gb_t (List.mem_of_getElem? (i := 127) rfl) rfl
set_option maxRecDepth 100000 in
theorem wq_X5 : (Jvm.Cond.arrayOver (Jvm.ClassFile.FieldType.object "ReportBlocks$Track")) ∈ lw_tbl := List.mem_append_right _ (List.mem_of_getElem? (i := 128) rfl)
set_option maxRecDepth 100000 in
theorem wb_X5 : (Jvm.Cond.instantiable "ReportBlocks$Track" (9 : Nat)) ∈ GB := gb_t (List.mem_of_getElem? (i := 129) rfl) rfl
set_option maxRecDepth 100000 in
theorem wz_X6_17 : (Jvm.Cond.methodLinkNest "ReportBlocks$TrackRow" (17 : Nat) ({ cls := "ReportBlocks$Track", name := "<init>", desc := "()V" } : Jvm.MethodName) "ReportBlocks") ∈ lw_tbl := List.mem_append_right _ (List.mem_of_getElem? (i := 130) rfl)
def nw_X6_17 : Cond := (Jvm.Cond.methodLinkNest "ReportBlocks$TrackRow" (17 : Nat) ({ cls := "ReportBlocks$Track", name := "<init>", desc := "()V" } : Jvm.MethodName) "ReportBlocks")
set_option maxRecDepth 100000 in
theorem wi_X5_init : (Jvm.Cond.instanceMethod ({ cls := "ReportBlocks$Track", name := "<init>", desc := "()V" } : Jvm.MethodName)) ∈ GB := gb_t (List.mem_of_getElem? (i := 131) rfl) rfl
set_option maxRecDepth 100000 in
theorem wc_X5_init : Cond.code yX5_init cX5_init 1 (Option.none : Option Jvm.ClassFile.FieldType) ∈ GB := gb_t (List.mem_of_getElem? (i := 132) rfl) rfl
set_option maxRecDepth 100000 in
theorem wl_X5_3 : (Jvm.Cond.methodLink "ReportBlocks$Track" (3 : Nat) ({ cls := "java/lang/Object", name := "<init>", desc := "()V" } : Jvm.MethodName)) ∈ GB := gb_t (List.mem_of_getElem? (i := 133) rfl) rfl
set_option maxRecDepth 100000 in
theorem wf_X5_9 : (Jvm.Cond.fieldLink "ReportBlocks$Track" (9 : Nat) "ReportBlocks$Track" "number" "I") ∈ GB := gb_t (List.mem_of_getElem? (i := 134) rfl) rfl
set_option maxRecDepth 100000 in
theorem wf_X6_22 : (Jvm.Cond.fieldLink "ReportBlocks$TrackRow" (22 : Nat) "ReportBlocks$Track" "number" "I") ∈ GB := gb_t (List.mem_of_getElem? (i := 135) rfl) rfl
set_option maxRecDepth 100000 in
theorem wf_X7_251 : (Jvm.Cond.fieldLink "ReportBlocks" (251 : Nat) "ReportBlocks$Track" "number" "I") ∈ GB := gb_t (List.mem_of_getElem? (i := 136) rfl) rfl
set_option maxRecDepth 100000 in
theorem wf_X5_43 : (Jvm.Cond.fieldLink "ReportBlocks$Track" (43 : Nat) "ReportBlocks$Track" "x" "I") ∈ GB := gb_t (List.mem_of_getElem? (i := 137) rfl) rfl
set_option maxRecDepth 100000 in
theorem wf_X7_254 : (Jvm.Cond.fieldLink "ReportBlocks" (254 : Nat) "ReportBlocks$Track" "x" "I") ∈ GB := gb_t (List.mem_of_getElem? (i := 138) rfl) rfl
set_option maxRecDepth 100000 in
theorem wf_X5_46 : (Jvm.Cond.fieldLink "ReportBlocks$Track" (46 : Nat) "ReportBlocks$Track" "y" "I") ∈ GB := gb_t (List.mem_of_getElem? (i := 139) rfl) rfl
set_option maxRecDepth 100000 in
theorem wf_X7_257 : (Jvm.Cond.fieldLink "ReportBlocks" (257 : Nat) "ReportBlocks$Track" "y" "I") ∈ GB := gb_t (List.mem_of_getElem? (i := 140) rfl) rfl
set_option maxRecDepth 100000 in
theorem wf_X5_18 : (Jvm.Cond.fieldLink "ReportBlocks$Track" (18 : Nat) "ReportBlocks$Track" "reportedX" "I") ∈ GB := gb_t (List.mem_of_getElem? (i := 141) rfl) rfl
set_option maxRecDepth 100000 in
theorem wf_X5_21 : (Jvm.Cond.fieldLink "ReportBlocks$Track" (21 : Nat) "ReportBlocks$Track" "reportedY" "I") ∈ GB := gb_t (List.mem_of_getElem? (i := 142) rfl) rfl
set_option maxRecDepth 100000 in
theorem wf_X5_37 : (Jvm.Cond.fieldLink "ReportBlocks$Track" (37 : Nat) "ReportBlocks$Track" "speedX" "I") ∈ GB := gb_t (List.mem_of_getElem? (i := 143) rfl) rfl
set_option maxRecDepth 100000 in
theorem wf_X7_260 : (Jvm.Cond.fieldLink "ReportBlocks" (260 : Nat) "ReportBlocks$Track" "speedX" "I") ∈ GB := gb_t (List.mem_of_getElem? (i := 144) rfl) rfl
set_option maxRecDepth 100000 in
theorem wf_X5_40 : (Jvm.Cond.fieldLink "ReportBlocks$Track" (40 : Nat) "ReportBlocks$Track" "speedY" "I") ∈ GB := gb_t (List.mem_of_getElem? (i := 145) rfl) rfl
set_option maxRecDepth 100000 in
theorem wf_X7_263 : (Jvm.Cond.fieldLink "ReportBlocks" (263 : Nat) "ReportBlocks$Track" "speedY" "I") ∈ GB := gb_t (List.mem_of_getElem? (i := 146) rfl) rfl
set_option maxRecDepth 100000 in
theorem wf_X5_28 : (Jvm.Cond.fieldLink "ReportBlocks$Track" (28 : Nat) "ReportBlocks$Track" "age" "I") ∈ GB := gb_t (List.mem_of_getElem? (i := 147) rfl) rfl
set_option maxRecDepth 100000 in
theorem wf_X6_42 : (Jvm.Cond.fieldLink "ReportBlocks$TrackRow" (42 : Nat) "ReportBlocks$Track" "age" "I") ∈ GB := gb_t (List.mem_of_getElem? (i := 148) rfl) rfl
set_option maxRecDepth 100000 in
theorem wf_X7_266 : (Jvm.Cond.fieldLink "ReportBlocks" (266 : Nat) "ReportBlocks$Track" "age" "I") ∈ GB := gb_t (List.mem_of_getElem? (i := 149) rfl) rfl
set_option maxRecDepth 100000 in
theorem wf_X5_15 : (Jvm.Cond.fieldLink "ReportBlocks$Track" (15 : Nat) "ReportBlocks$Track" "hits" "I") ∈ GB := gb_t (List.mem_of_getElem? (i := 150) rfl) rfl
set_option maxRecDepth 100000 in
theorem wf_X7_269 : (Jvm.Cond.fieldLink "ReportBlocks" (269 : Nat) "ReportBlocks$Track" "hits" "I") ∈ GB := gb_t (List.mem_of_getElem? (i := 151) rfl) rfl
set_option maxRecDepth 100000 in
theorem wy_X5_number : (Jvm.Cond.lays "ReportBlocks$Track" "ReportBlocks$Track" "number" "I") ∈ GB := gb_t (List.mem_of_getElem? (i := 152) rfl) rfl
set_option maxRecDepth 100000 in
theorem wy_X5_x : (Jvm.Cond.lays "ReportBlocks$Track" "ReportBlocks$Track" "x" "I") ∈ GB := gb_t (List.mem_of_getElem? (i := 154) rfl) rfl
set_option maxRecDepth 100000 in
theorem wy_X5_y : (Jvm.Cond.lays "ReportBlocks$Track" "ReportBlocks$Track" "y" "I") ∈ GB := gb_t (List.mem_of_getElem? (i := 156) rfl) rfl
set_option maxRecDepth 100000 in
theorem wy_X5_reportedX : (Jvm.Cond.lays "ReportBlocks$Track" "ReportBlocks$Track" "reportedX" "I") ∈ GB := gb_t (List.mem_of_getElem? (i := 158) rfl) rfl
set_option maxRecDepth 100000 in
theorem wy_X5_reportedY : (Jvm.Cond.lays "ReportBlocks$Track" "ReportBlocks$Track" "reportedY" "I") ∈ GB := gb_t (List.mem_of_getElem? (i := 160) rfl) rfl
set_option maxRecDepth 100000 in
theorem wy_X5_speedX : (Jvm.Cond.lays "ReportBlocks$Track" "ReportBlocks$Track" "speedX" "I") ∈ GB := gb_t (List.mem_of_getElem? (i := 162) rfl) rfl
set_option maxRecDepth 100000 in
theorem wy_X5_speedY : (Jvm.Cond.lays "ReportBlocks$Track" "ReportBlocks$Track" "speedY" "I") ∈ GB := gb_t (List.mem_of_getElem? (i := 164) rfl) rfl
set_option maxRecDepth 100000 in
theorem wy_X5_age : (Jvm.Cond.lays "ReportBlocks$Track" "ReportBlocks$Track" "age" "I") ∈ GB := gb_t (List.mem_of_getElem? (i := 166) rfl) rfl
set_option maxRecDepth 100000 in
theorem wy_X5_hits : (Jvm.Cond.lays "ReportBlocks$Track" "ReportBlocks$Track" "hits" "I") ∈ GB := gb_t (List.mem_of_getElem? (i := 168) rfl) rfl
set_option maxRecDepth 100000 in
theorem wf_X6_11 : (Jvm.Cond.fieldLink "ReportBlocks$TrackRow" (11 : Nat) "ReportBlocks$TrackRow" "tracks" "[LReportBlocks$Track;") ∈ GB := gb_t (List.mem_of_getElem? (i := 171) rfl) rfl
set_option maxRecDepth 100000 in
theorem wf_X7_247 : (Jvm.Cond.fieldLink "ReportBlocks" (247 : Nat) "ReportBlocks$TrackRow" "tracks" "[LReportBlocks$Track;") ∈ GB := gb_t (List.mem_of_getElem? (i := 172) rfl) rfl
set_option maxRecDepth 100000 in
theorem wf_X6_18 : (Jvm.Cond.fieldLink "ReportBlocks$TrackRow" (18 : Nat) "ReportBlocks$TrackRow" "size" "I") ∈ GB := gb_t (List.mem_of_getElem? (i := 173) rfl) rfl
set_option maxRecDepth 100000 in
theorem wf_X7_246 : (Jvm.Cond.fieldLink "ReportBlocks" (246 : Nat) "ReportBlocks$TrackRow" "size" "I") ∈ GB := gb_t (List.mem_of_getElem? (i := 174) rfl) rfl
set_option maxRecDepth 100000 in
theorem wf_X6_29 : (Jvm.Cond.fieldLink "ReportBlocks$TrackRow" (29 : Nat) "ReportBlocks$TrackRow" "lost" "I") ∈ GB := gb_t (List.mem_of_getElem? (i := 175) rfl) rfl
set_option maxRecDepth 100000 in
theorem wf_X7_272 : (Jvm.Cond.fieldLink "ReportBlocks" (272 : Nat) "ReportBlocks$TrackRow" "lost" "I") ∈ GB := gb_t (List.mem_of_getElem? (i := 176) rfl) rfl
set_option maxRecDepth 100000 in
theorem wf_X6_45 : (Jvm.Cond.fieldLink "ReportBlocks$TrackRow" (45 : Nat) "ReportBlocks$TrackRow" "dropped" "I") ∈ GB := gb_t (List.mem_of_getElem? (i := 177) rfl) rfl
set_option maxRecDepth 100000 in
theorem wf_X7_240 : (Jvm.Cond.fieldLink "ReportBlocks" (240 : Nat) "ReportBlocks$TrackRow" "dropped" "I") ∈ GB := gb_t (List.mem_of_getElem? (i := 178) rfl) rfl
set_option maxRecDepth 100000 in
theorem wf_X6_36 : (Jvm.Cond.fieldLink "ReportBlocks$TrackRow" (36 : Nat) "ReportBlocks$TrackRow" "ticks" "I") ∈ GB := gb_t (List.mem_of_getElem? (i := 179) rfl) rfl
set_option maxRecDepth 100000 in
theorem wf_X7_275 : (Jvm.Cond.fieldLink "ReportBlocks" (275 : Nat) "ReportBlocks$TrackRow" "ticks" "I") ∈ GB := gb_t (List.mem_of_getElem? (i := 180) rfl) rfl
set_option maxRecDepth 100000 in
theorem wy_X6_tracks : (Jvm.Cond.laysFinal "ReportBlocks$TrackRow" "ReportBlocks$TrackRow" "tracks" "[LReportBlocks$Track;") ∈ GB := gb_t (List.mem_of_getElem? (i := 181) rfl) rfl
set_option maxRecDepth 100000 in
theorem wy_X6_size : (Jvm.Cond.lays "ReportBlocks$TrackRow" "ReportBlocks$TrackRow" "size" "I") ∈ GB := gb_t (List.mem_of_getElem? (i := 183) rfl) rfl
set_option maxRecDepth 100000 in
theorem wy_X6_lost : (Jvm.Cond.lays "ReportBlocks$TrackRow" "ReportBlocks$TrackRow" "lost" "I") ∈ GB := gb_t (List.mem_of_getElem? (i := 185) rfl) rfl
set_option maxRecDepth 100000 in
theorem wy_X6_dropped : (Jvm.Cond.lays "ReportBlocks$TrackRow" "ReportBlocks$TrackRow" "dropped" "I") ∈ GB := gb_t (List.mem_of_getElem? (i := 187) rfl) rfl
set_option maxRecDepth 100000 in
theorem wy_X6_ticks : (Jvm.Cond.lays "ReportBlocks$TrackRow" "ReportBlocks$TrackRow" "ticks" "I") ∈ GB := gb_t (List.mem_of_getElem? (i := 189) rfl) rfl
set_option maxRecDepth 100000 in
theorem wf_X7_11 : (Jvm.Cond.fieldLink "ReportBlocks" (11 : Nat) "ReportBlocks" "categories" "[LReportBlocks$Category;") ∈ GB := gb_t (List.mem_of_getElem? (i := 192) rfl) rfl
set_option maxRecDepth 100000 in
theorem wf_X7_59 : (Jvm.Cond.fieldLink "ReportBlocks" (59 : Nat) "ReportBlocks" "categoryCount" "I") ∈ GB := gb_t (List.mem_of_getElem? (i := 193) rfl) rfl
set_option maxRecDepth 100000 in
theorem wf_X7_18 : (Jvm.Cond.fieldLink "ReportBlocks" (18 : Nat) "ReportBlocks" "belt" "LReportBlocks$Tape;") ∈ GB := gb_t (List.mem_of_getElem? (i := 194) rfl) rfl
set_option maxRecDepth 100000 in
theorem wf_X7_27 : (Jvm.Cond.fieldLink "ReportBlocks" (27 : Nat) "ReportBlocks" "reader" "LReportBlocks$Reader;") ∈ GB := gb_t (List.mem_of_getElem? (i := 195) rfl) rfl
set_option maxRecDepth 100000 in
theorem wf_X7_34 : (Jvm.Cond.fieldLink "ReportBlocks" (34 : Nat) "ReportBlocks" "latest" "LReportBlocks$Block;") ∈ GB := gb_t (List.mem_of_getElem? (i := 196) rfl) rfl
set_option maxRecDepth 100000 in
theorem wf_X7_38 : (Jvm.Cond.fieldLink "ReportBlocks" (38 : Nat) "ReportBlocks" "spare" "LReportBlocks$Block;") ∈ GB := gb_t (List.mem_of_getElem? (i := 197) rfl) rfl
set_option maxRecDepth 100000 in
theorem wf_X7_44 : (Jvm.Cond.fieldLink "ReportBlocks" (44 : Nat) "ReportBlocks" "own" "LReportBlocks$OwnRecord;") ∈ GB := gb_t (List.mem_of_getElem? (i := 198) rfl) rfl
set_option maxRecDepth 100000 in
theorem wf_X7_51 : (Jvm.Cond.fieldLink "ReportBlocks" (51 : Nat) "ReportBlocks" "row" "LReportBlocks$TrackRow;") ∈ GB := gb_t (List.mem_of_getElem? (i := 199) rfl) rfl
set_option maxRecDepth 100000 in
theorem wf_X7_129 : (Jvm.Cond.fieldLink "ReportBlocks" (129 : Nat) "ReportBlocks" "latestFault" "I") ∈ GB := gb_t (List.mem_of_getElem? (i := 200) rfl) rfl
set_option maxRecDepth 100000 in
theorem wf_X7_148 : (Jvm.Cond.fieldLink "ReportBlocks" (148 : Nat) "ReportBlocks" "blocksRead" "I") ∈ GB := gb_t (List.mem_of_getElem? (i := 201) rfl) rfl
set_option maxRecDepth 100000 in
theorem wy_X7_categories : (Jvm.Cond.laysFinal "ReportBlocks" "ReportBlocks" "categories" "[LReportBlocks$Category;") ∈ GB := gb_t (List.mem_of_getElem? (i := 202) rfl) rfl
set_option maxRecDepth 100000 in
theorem wy_X7_categoryCount : (Jvm.Cond.lays "ReportBlocks" "ReportBlocks" "categoryCount" "I") ∈ GB := gb_t (List.mem_of_getElem? (i := 204) rfl) rfl
set_option maxRecDepth 100000 in
theorem wy_X7_belt : (Jvm.Cond.laysFinal "ReportBlocks" "ReportBlocks" "belt" "LReportBlocks$Tape;") ∈ GB := gb_t (List.mem_of_getElem? (i := 206) rfl) rfl
set_option maxRecDepth 100000 in
theorem wy_X7_reader : (Jvm.Cond.laysFinal "ReportBlocks" "ReportBlocks" "reader" "LReportBlocks$Reader;") ∈ GB := gb_t (List.mem_of_getElem? (i := 208) rfl) rfl
set_option maxRecDepth 100000 in
theorem wy_X7_latest : (Jvm.Cond.lays "ReportBlocks" "ReportBlocks" "latest" "LReportBlocks$Block;") ∈ GB := gb_t (List.mem_of_getElem? (i := 210) rfl) rfl
set_option maxRecDepth 100000 in
theorem wy_X7_spare : (Jvm.Cond.lays "ReportBlocks" "ReportBlocks" "spare" "LReportBlocks$Block;") ∈ GB := gb_t (List.mem_of_getElem? (i := 212) rfl) rfl
set_option maxRecDepth 100000 in
theorem wy_X7_own : (Jvm.Cond.laysFinal "ReportBlocks" "ReportBlocks" "own" "LReportBlocks$OwnRecord;") ∈ GB := gb_t (List.mem_of_getElem? (i := 214) rfl) rfl
set_option maxRecDepth 100000 in
theorem wy_X7_row : (Jvm.Cond.laysFinal "ReportBlocks" "ReportBlocks" "row" "LReportBlocks$TrackRow;") ∈ GB := gb_t (List.mem_of_getElem? (i := 216) rfl) rfl
set_option maxRecDepth 100000 in
theorem wy_X7_latestFault : (Jvm.Cond.lays "ReportBlocks" "ReportBlocks" "latestFault" "I") ∈ GB := gb_t (List.mem_of_getElem? (i := 218) rfl) rfl
set_option maxRecDepth 100000 in
theorem wy_X7_blocksRead : (Jvm.Cond.lays "ReportBlocks" "ReportBlocks" "blocksRead" "I") ∈ GB := gb_t (List.mem_of_getElem? (i := 220) rfl) rfl
set_option maxRecDepth 100000 in
theorem wl_L_13 : (Jvm.Cond.methodLink "ReportBlocksLaw" (13 : Nat) ({ cls := "ReportBlocks", name := "category", desc := "(I)I" } : Jvm.MethodName)) ∈ GB := gb_t (List.mem_of_getElem? (i := 223) rfl) rfl
set_option maxRecDepth 100000 in
theorem wi_X7_category : (Jvm.Cond.instanceMethod ({ cls := "ReportBlocks", name := "category", desc := "(I)I" } : Jvm.MethodName)) ∈ GB := gb_t (List.mem_of_getElem? (i := 224) rfl) rfl
set_option maxRecDepth 100000 in
theorem wv_X7_category : (Jvm.Cond.selects "ReportBlocks" ({ cls := "ReportBlocks", name := "category", desc := "(I)I" } : Jvm.MethodName) ({ cls := "ReportBlocks", name := "category", desc := "(I)I" } : Jvm.MethodName)) ∈ GB := gb_t (List.mem_of_getElem? (i := 225) rfl) rfl
set_option maxRecDepth 100000 in
theorem wc_X7_category : Cond.code yX7_category cX7_category 2 (Option.some Jvm.ClassFile.FieldType.int) ∈ GB := gb_t (List.mem_of_getElem? (i := 226) rfl) rfl
set_option maxRecDepth 100000 in
theorem wl_X7_55 : (Jvm.Cond.methodLink "ReportBlocks" (55 : Nat) ({ cls := "ReportBlocks", name := "indexOfNumber", desc := "(I)I" } : Jvm.MethodName)) ∈ GB := gb_t (List.mem_of_getElem? (i := 227) rfl) rfl
set_option maxRecDepth 100000 in
theorem wi_X7_indexOfNumber : (Jvm.Cond.instanceMethod ({ cls := "ReportBlocks", name := "indexOfNumber", desc := "(I)I" } : Jvm.MethodName)) ∈ GB := gb_t (List.mem_of_getElem? (i := 229) rfl) rfl
set_option maxRecDepth 100000 in
theorem wc_X7_indexOfNumber : Cond.code yX7_indexOfNumber cX7_indexOfNumber 3 (Option.some Jvm.ClassFile.FieldType.int) ∈ GB := gb_t (List.mem_of_getElem? (i := 230) rfl) rfl
set_option maxRecDepth 100000 in
theorem wb_X1 : (Jvm.Cond.instantiable "ReportBlocks$Category" (6 : Nat)) ∈ GB := gb_t (List.mem_of_getElem? (i := 231) rfl) rfl
set_option maxRecDepth 100000 in
theorem wl_X7_63 : (Jvm.Cond.methodLink "ReportBlocks" (63 : Nat) ({ cls := "ReportBlocks$Category", name := "<init>", desc := "(I)V" } : Jvm.MethodName)) ∈ GB := gb_t (List.mem_of_getElem? (i := 232) rfl) rfl
set_option maxRecDepth 100000 in
theorem wi_X1_init : (Jvm.Cond.instanceMethod ({ cls := "ReportBlocks$Category", name := "<init>", desc := "(I)V" } : Jvm.MethodName)) ∈ GB := gb_t (List.mem_of_getElem? (i := 233) rfl) rfl
set_option maxRecDepth 100000 in
theorem wc_X1_init : Cond.code yX1_init cX1_init 2 (Option.none : Option Jvm.ClassFile.FieldType) ∈ GB := gb_t (List.mem_of_getElem? (i := 234) rfl) rfl
set_option maxRecDepth 100000 in
theorem wl_X1_3 : (Jvm.Cond.methodLink "ReportBlocks$Category" (3 : Nat) ({ cls := "java/lang/Object", name := "<init>", desc := "()V" } : Jvm.MethodName)) ∈ GB := gb_t (List.mem_of_getElem? (i := 235) rfl) rfl
set_option maxRecDepth 100000 in
theorem wl_X1_25 : (Jvm.Cond.methodLink "ReportBlocks$Category" (25 : Nat) ({ cls := "java/util/Arrays", name := "fill", desc := "([II)V" } : Jvm.MethodName)) ∈ GB := gb_t (List.mem_of_getElem? (i := 236) rfl) rfl
set_option maxRecDepth 100000 in
theorem wt_J7_fill_53178 : (Jvm.Cond.static ({ cls := "java/util/Arrays", name := "fill", desc := "([II)V" } : Jvm.MethodName)) ∈ GB := gb_t (List.mem_of_getElem? (i := 237) rfl) rfl
set_option maxRecDepth 100000 in
theorem wc_J7_fill_53178 : Cond.code yJ7_fill_53178 cJ7_fill_53178 4 (Option.none : Option Jvm.ClassFile.FieldType) ∈ GB := gb_t (List.mem_of_getElem? (i := 238) rfl) rfl
set_option maxRecDepth 100000 in
theorem wf_X1_9 : (Jvm.Cond.fieldLink "ReportBlocks$Category" (9 : Nat) "ReportBlocks$Category" "number" "I") ∈ GB := gb_t (List.mem_of_getElem? (i := 239) rfl) rfl
set_option maxRecDepth 100000 in
theorem wf_X7_204 : (Jvm.Cond.fieldLink "ReportBlocks" (204 : Nat) "ReportBlocks$Category" "number" "I") ∈ GB := gb_t (List.mem_of_getElem? (i := 240) rfl) rfl
set_option maxRecDepth 100000 in
theorem wf_X1_15 : (Jvm.Cond.fieldLink "ReportBlocks$Category" (15 : Nat) "ReportBlocks$Category" "kinds" "[I") ∈ GB := gb_t (List.mem_of_getElem? (i := 241) rfl) rfl
set_option maxRecDepth 100000 in
theorem wf_X7_81 : (Jvm.Cond.fieldLink "ReportBlocks" (81 : Nat) "ReportBlocks$Category" "kinds" "[I") ∈ GB := gb_t (List.mem_of_getElem? (i := 242) rfl) rfl
set_option maxRecDepth 100000 in
theorem wf_X3_63 : (Jvm.Cond.fieldLink "ReportBlocks$Reader" (63 : Nat) "ReportBlocks$Category" "kinds" "[I") ∈ GB := gb_t (List.mem_of_getElem? (i := 243) rfl) rfl
set_option maxRecDepth 100000 in
theorem wf_X1_19 : (Jvm.Cond.fieldLink "ReportBlocks$Category" (19 : Nat) "ReportBlocks$Category" "sizes" "[I") ∈ GB := gb_t (List.mem_of_getElem? (i := 244) rfl) rfl
set_option maxRecDepth 100000 in
theorem wf_X7_105 : (Jvm.Cond.fieldLink "ReportBlocks" (105 : Nat) "ReportBlocks$Category" "sizes" "[I") ∈ GB := gb_t (List.mem_of_getElem? (i := 245) rfl) rfl
set_option maxRecDepth 100000 in
theorem wf_X3_68 : (Jvm.Cond.fieldLink "ReportBlocks$Reader" (68 : Nat) "ReportBlocks$Category" "sizes" "[I") ∈ GB := gb_t (List.mem_of_getElem? (i := 246) rfl) rfl
set_option maxRecDepth 100000 in
theorem wf_X1_22 : (Jvm.Cond.fieldLink "ReportBlocks$Category" (22 : Nat) "ReportBlocks$Category" "parts" "[I") ∈ GB := gb_t (List.mem_of_getElem? (i := 247) rfl) rfl
set_option maxRecDepth 100000 in
theorem wf_X1_34 : (Jvm.Cond.fieldLink "ReportBlocks$Category" (34 : Nat) "ReportBlocks$Category" "numberPlace" "I") ∈ GB := gb_t (List.mem_of_getElem? (i := 248) rfl) rfl
set_option maxRecDepth 100000 in
theorem wf_X7_99 : (Jvm.Cond.fieldLink "ReportBlocks" (99 : Nat) "ReportBlocks$Category" "numberPlace" "I") ∈ GB := gb_t (List.mem_of_getElem? (i := 249) rfl) rfl
set_option maxRecDepth 100000 in
theorem wf_X1_41 : (Jvm.Cond.fieldLink "ReportBlocks$Category" (41 : Nat) "ReportBlocks$Category" "positionPlace" "I") ∈ GB := gb_t (List.mem_of_getElem? (i := 250) rfl) rfl
set_option maxRecDepth 100000 in
theorem wf_X7_102 : (Jvm.Cond.fieldLink "ReportBlocks" (102 : Nat) "ReportBlocks$Category" "positionPlace" "I") ∈ GB := gb_t (List.mem_of_getElem? (i := 251) rfl) rfl
set_option maxRecDepth 100000 in
theorem wy_X1_number : (Jvm.Cond.laysFinal "ReportBlocks$Category" "ReportBlocks$Category" "number" "I") ∈ GB := gb_t (List.mem_of_getElem? (i := 252) rfl) rfl
set_option maxRecDepth 100000 in
theorem wy_X1_kinds : (Jvm.Cond.laysFinal "ReportBlocks$Category" "ReportBlocks$Category" "kinds" "[I") ∈ GB := gb_t (List.mem_of_getElem? (i := 254) rfl) rfl
set_option maxRecDepth 100000 in
theorem wy_X1_sizes : (Jvm.Cond.laysFinal "ReportBlocks$Category" "ReportBlocks$Category" "sizes" "[I") ∈ GB := gb_t (List.mem_of_getElem? (i := 256) rfl) rfl
set_option maxRecDepth 100000 in
theorem wy_X1_parts : (Jvm.Cond.laysFinal "ReportBlocks$Category" "ReportBlocks$Category" "parts" "[I") ∈ GB := gb_t (List.mem_of_getElem? (i := 258) rfl) rfl
set_option maxRecDepth 100000 in
theorem wy_X1_numberPlace : (Jvm.Cond.lays "ReportBlocks$Category" "ReportBlocks$Category" "numberPlace" "I") ∈ GB := gb_t (List.mem_of_getElem? (i := 260) rfl) rfl
set_option maxRecDepth 100000 in
theorem wy_X1_positionPlace : (Jvm.Cond.lays "ReportBlocks$Category" "ReportBlocks$Category" "positionPlace" "I") ∈ GB := gb_t (List.mem_of_getElem? (i := 262) rfl) rfl
set_option maxRecDepth 100000 in
theorem wl_L_18 : (Jvm.Cond.methodLink "ReportBlocksLaw" (18 : Nat) ({ cls := "ReportBlocks", name := "item", desc := "(IIII)I" } : Jvm.MethodName)) ∈ GB := gb_t (List.mem_of_getElem? (i := 265) rfl) rfl
set_option maxRecDepth 100000 in
theorem wi_X7_item : (Jvm.Cond.instanceMethod ({ cls := "ReportBlocks", name := "item", desc := "(IIII)I" } : Jvm.MethodName)) ∈ GB := gb_t (List.mem_of_getElem? (i := 266) rfl) rfl
set_option maxRecDepth 100000 in
theorem wv_X7_item : (Jvm.Cond.selects "ReportBlocks" ({ cls := "ReportBlocks", name := "item", desc := "(IIII)I" } : Jvm.MethodName) ({ cls := "ReportBlocks", name := "item", desc := "(IIII)I" } : Jvm.MethodName)) ∈ GB := gb_t (List.mem_of_getElem? (i := 267) rfl) rfl
set_option maxRecDepth 100000 in
theorem wc_X7_item : Cond.code yX7_item cX7_item 7 (Option.some Jvm.ClassFile.FieldType.int) ∈ GB := gb_t (List.mem_of_getElem? (i := 268) rfl) rfl
set_option maxRecDepth 100000 in
theorem wl_X7_66 : (Jvm.Cond.methodLink "ReportBlocks" (66 : Nat) ({ cls := "ReportBlocks", name := "categoryAt", desc := "(I)LReportBlocks$Category;" } : Jvm.MethodName)) ∈ GB := gb_t (List.mem_of_getElem? (i := 269) rfl) rfl
set_option maxRecDepth 100000 in
theorem wi_X7_categoryAt : (Jvm.Cond.instanceMethod ({ cls := "ReportBlocks", name := "categoryAt", desc := "(I)LReportBlocks$Category;" } : Jvm.MethodName)) ∈ GB := gb_t (List.mem_of_getElem? (i := 271) rfl) rfl
set_option maxRecDepth 100000 in
theorem wc_X7_categoryAt : Cond.code yX7_categoryAt cX7_categoryAt 2 (Option.some (Jvm.ClassFile.FieldType.object "ReportBlocks$Category")) ∈ GB := gb_t (List.mem_of_getElem? (i := 272) rfl) rfl
set_option maxRecDepth 100000 in
theorem wl_X7_70 : (Jvm.Cond.methodLink "ReportBlocks" (70 : Nat) ({ cls := "ReportBlocks", name := "isPlace", desc := "(I)Z" } : Jvm.MethodName)) ∈ GB := gb_t (List.mem_of_getElem? (i := 273) rfl) rfl
set_option maxRecDepth 100000 in
theorem wt_X7_isPlace : (Jvm.Cond.static ({ cls := "ReportBlocks", name := "isPlace", desc := "(I)Z" } : Jvm.MethodName)) ∈ GB := gb_t (List.mem_of_getElem? (i := 274) rfl) rfl
set_option maxRecDepth 100000 in
theorem wc_X7_isPlace : Cond.code yX7_isPlace cX7_isPlace 1 (Option.some Jvm.ClassFile.FieldType.boolean) ∈ GB := gb_t (List.mem_of_getElem? (i := 275) rfl) rfl
set_option maxRecDepth 100000 in
theorem wl_X7_74 : (Jvm.Cond.methodLink "ReportBlocks" (74 : Nat) ({ cls := "ReportBlocks", name := "isItem", desc := "(II)Z" } : Jvm.MethodName)) ∈ GB := gb_t (List.mem_of_getElem? (i := 276) rfl) rfl
set_option maxRecDepth 100000 in
theorem wt_X7_isItem : (Jvm.Cond.static ({ cls := "ReportBlocks", name := "isItem", desc := "(II)Z" } : Jvm.MethodName)) ∈ GB := gb_t (List.mem_of_getElem? (i := 277) rfl) rfl
set_option maxRecDepth 100000 in
theorem wc_X7_isItem : Cond.code yX7_isItem cX7_isItem 2 (Option.some Jvm.ClassFile.FieldType.boolean) ∈ GB := gb_t (List.mem_of_getElem? (i := 278) rfl) rfl
set_option maxRecDepth 100000 in
theorem wl_X7_78 : (Jvm.Cond.methodLink "ReportBlocks" (78 : Nat) ({ cls := "ReportBlocks", name := "isInUse", desc := "(I)Z" } : Jvm.MethodName)) ∈ GB := gb_t (List.mem_of_getElem? (i := 279) rfl) rfl
set_option maxRecDepth 100000 in
theorem wi_X7_isInUse : (Jvm.Cond.instanceMethod ({ cls := "ReportBlocks", name := "isInUse", desc := "(I)Z" } : Jvm.MethodName)) ∈ GB := gb_t (List.mem_of_getElem? (i := 281) rfl) rfl
set_option maxRecDepth 100000 in
theorem wc_X7_isInUse : Cond.code yX7_isInUse cX7_isInUse 2 (Option.some Jvm.ClassFile.FieldType.boolean) ∈ GB := gb_t (List.mem_of_getElem? (i := 282) rfl) rfl
set_option maxRecDepth 100000 in
theorem wl_X7_85 : (Jvm.Cond.methodLink "ReportBlocks" (85 : Nat) ({ cls := "ReportBlocks$Category", name := "putItem", desc := "(III)V" } : Jvm.MethodName)) ∈ GB := gb_t (List.mem_of_getElem? (i := 283) rfl) rfl
set_option maxRecDepth 100000 in
theorem wi_X1_putItem : (Jvm.Cond.instanceMethod ({ cls := "ReportBlocks$Category", name := "putItem", desc := "(III)V" } : Jvm.MethodName)) ∈ GB := gb_t (List.mem_of_getElem? (i := 284) rfl) rfl
set_option maxRecDepth 100000 in
theorem wv_X1_putItem : (Jvm.Cond.selects "ReportBlocks$Category" ({ cls := "ReportBlocks$Category", name := "putItem", desc := "(III)V" } : Jvm.MethodName) ({ cls := "ReportBlocks$Category", name := "putItem", desc := "(III)V" } : Jvm.MethodName)) ∈ GB := gb_t (List.mem_of_getElem? (i := 285) rfl) rfl
set_option maxRecDepth 100000 in
theorem wc_X1_putItem : Cond.code yX1_putItem cX1_putItem 4 (Option.none : Option Jvm.ClassFile.FieldType) ∈ GB := gb_t (List.mem_of_getElem? (i := 286) rfl) rfl
set_option maxRecDepth 100000 in
theorem wl_X1_31 : (Jvm.Cond.methodLink "ReportBlocks$Category" (31 : Nat) ({ cls := "java/util/Arrays", name := "fill", desc := "([IIII)V" } : Jvm.MethodName)) ∈ GB := gb_t (List.mem_of_getElem? (i := 287) rfl) rfl
set_option maxRecDepth 100000 in
theorem wt_J7_fill_fda19 : (Jvm.Cond.static ({ cls := "java/util/Arrays", name := "fill", desc := "([IIII)V" } : Jvm.MethodName)) ∈ GB := gb_t (List.mem_of_getElem? (i := 288) rfl) rfl
set_option maxRecDepth 100000 in
theorem wc_J7_fill_fda19 : Cond.code yJ7_fill_fda19 cJ7_fill_fda19 5 (Option.none : Option Jvm.ClassFile.FieldType) ∈ GB := gb_t (List.mem_of_getElem? (i := 289) rfl) rfl
set_option maxRecDepth 100000 in
theorem wl_J7_13 : (Jvm.Cond.methodLink "java/util/Arrays" (13 : Nat) ({ cls := "java/util/Arrays", name := "rangeCheck", desc := "(III)V" } : Jvm.MethodName)) ∈ GB := gb_t (List.mem_of_getElem? (i := 290) rfl) rfl
set_option maxRecDepth 100000 in
theorem wt_J7_rangeCheck_23922 : (Jvm.Cond.static ({ cls := "java/util/Arrays", name := "rangeCheck", desc := "(III)V" } : Jvm.MethodName)) ∈ GB := gb_t (List.mem_of_getElem? (i := 291) rfl) rfl
set_option maxRecDepth 100000 in
theorem wc_J7_rangeCheck_23922 : Cond.code yJ7_rangeCheck_23922 cJ7_rangeCheck_23922 3 (Option.none : Option Jvm.ClassFile.FieldType) ∈ GB := gb_t (List.mem_of_getElem? (i := 292) rfl) rfl
set_option maxRecDepth 100000 in
theorem wl_L_23 : (Jvm.Cond.methodLink "ReportBlocksLaw" (23 : Nat) ({ cls := "ReportBlocks", name := "part", desc := "(IIII)I" } : Jvm.MethodName)) ∈ GB := gb_t (List.mem_of_getElem? (i := 293) rfl) rfl
set_option maxRecDepth 100000 in
theorem wi_X7_part : (Jvm.Cond.instanceMethod ({ cls := "ReportBlocks", name := "part", desc := "(IIII)I" } : Jvm.MethodName)) ∈ GB := gb_t (List.mem_of_getElem? (i := 294) rfl) rfl
set_option maxRecDepth 100000 in
theorem wv_X7_part : (Jvm.Cond.selects "ReportBlocks" ({ cls := "ReportBlocks", name := "part", desc := "(IIII)I" } : Jvm.MethodName) ({ cls := "ReportBlocks", name := "part", desc := "(IIII)I" } : Jvm.MethodName)) ∈ GB := gb_t (List.mem_of_getElem? (i := 295) rfl) rfl
set_option maxRecDepth 100000 in
theorem wc_X7_part : Cond.code yX7_part cX7_part 7 (Option.some Jvm.ClassFile.FieldType.int) ∈ GB := gb_t (List.mem_of_getElem? (i := 296) rfl) rfl
set_option maxRecDepth 100000 in
theorem wl_X7_89 : (Jvm.Cond.methodLink "ReportBlocks" (89 : Nat) ({ cls := "ReportBlocks$Category", name := "partBytes", desc := "(II)I" } : Jvm.MethodName)) ∈ GB := gb_t (List.mem_of_getElem? (i := 297) rfl) rfl
set_option maxRecDepth 100000 in
theorem wi_X1_partBytes : (Jvm.Cond.instanceMethod ({ cls := "ReportBlocks$Category", name := "partBytes", desc := "(II)I" } : Jvm.MethodName)) ∈ GB := gb_t (List.mem_of_getElem? (i := 298) rfl) rfl
set_option maxRecDepth 100000 in
theorem wv_X1_partBytes : (Jvm.Cond.selects "ReportBlocks$Category" ({ cls := "ReportBlocks$Category", name := "partBytes", desc := "(II)I" } : Jvm.MethodName) ({ cls := "ReportBlocks$Category", name := "partBytes", desc := "(II)I" } : Jvm.MethodName)) ∈ GB := gb_t (List.mem_of_getElem? (i := 299) rfl) rfl
set_option maxRecDepth 100000 in
theorem wc_X1_partBytes : Cond.code yX1_partBytes cX1_partBytes 3 (Option.some Jvm.ClassFile.FieldType.int) ∈ GB := gb_t (List.mem_of_getElem? (i := 300) rfl) rfl
set_option maxRecDepth 100000 in
theorem wl_X7_93 : (Jvm.Cond.methodLink "ReportBlocks" (93 : Nat) ({ cls := "ReportBlocks$Category", name := "putPart", desc := "(III)V" } : Jvm.MethodName)) ∈ GB := gb_t (List.mem_of_getElem? (i := 301) rfl) rfl
set_option maxRecDepth 100000 in
theorem wi_X1_putPart : (Jvm.Cond.instanceMethod ({ cls := "ReportBlocks$Category", name := "putPart", desc := "(III)V" } : Jvm.MethodName)) ∈ GB := gb_t (List.mem_of_getElem? (i := 302) rfl) rfl
set_option maxRecDepth 100000 in
theorem wv_X1_putPart : (Jvm.Cond.selects "ReportBlocks$Category" ({ cls := "ReportBlocks$Category", name := "putPart", desc := "(III)V" } : Jvm.MethodName) ({ cls := "ReportBlocks$Category", name := "putPart", desc := "(III)V" } : Jvm.MethodName)) ∈ GB := gb_t (List.mem_of_getElem? (i := 303) rfl) rfl
set_option maxRecDepth 100000 in
theorem wc_X1_putPart : Cond.code yX1_putPart cX1_putPart 4 (Option.none : Option Jvm.ClassFile.FieldType) ∈ GB := gb_t (List.mem_of_getElem? (i := 304) rfl) rfl
set_option maxRecDepth 100000 in
theorem wl_L_27 : (Jvm.Cond.methodLink "ReportBlocksLaw" (27 : Nat) ({ cls := "ReportBlocks", name := "tells", desc := "(III)I" } : Jvm.MethodName)) ∈ GB := gb_t (List.mem_of_getElem? (i := 305) rfl) rfl
set_option maxRecDepth 100000 in
theorem wi_X7_tells : (Jvm.Cond.instanceMethod ({ cls := "ReportBlocks", name := "tells", desc := "(III)I" } : Jvm.MethodName)) ∈ GB := gb_t (List.mem_of_getElem? (i := 306) rfl) rfl
set_option maxRecDepth 100000 in
theorem wv_X7_tells : (Jvm.Cond.selects "ReportBlocks" ({ cls := "ReportBlocks", name := "tells", desc := "(III)I" } : Jvm.MethodName) ({ cls := "ReportBlocks", name := "tells", desc := "(III)I" } : Jvm.MethodName)) ∈ GB := gb_t (List.mem_of_getElem? (i := 307) rfl) rfl
set_option maxRecDepth 100000 in
theorem wc_X7_tells : Cond.code yX7_tells cX7_tells 5 (Option.some Jvm.ClassFile.FieldType.int) ∈ GB := gb_t (List.mem_of_getElem? (i := 308) rfl) rfl
set_option maxRecDepth 100000 in
theorem wl_X7_96 : (Jvm.Cond.methodLink "ReportBlocks" (96 : Nat) ({ cls := "ReportBlocks$Category", name := "isFixed", desc := "(II)Z" } : Jvm.MethodName)) ∈ GB := gb_t (List.mem_of_getElem? (i := 309) rfl) rfl
set_option maxRecDepth 100000 in
theorem wi_X1_isFixed : (Jvm.Cond.instanceMethod ({ cls := "ReportBlocks$Category", name := "isFixed", desc := "(II)Z" } : Jvm.MethodName)) ∈ GB := gb_t (List.mem_of_getElem? (i := 310) rfl) rfl
set_option maxRecDepth 100000 in
theorem wv_X1_isFixed : (Jvm.Cond.selects "ReportBlocks$Category" ({ cls := "ReportBlocks$Category", name := "isFixed", desc := "(II)Z" } : Jvm.MethodName) ({ cls := "ReportBlocks$Category", name := "isFixed", desc := "(II)Z" } : Jvm.MethodName)) ∈ GB := gb_t (List.mem_of_getElem? (i := 311) rfl) rfl
set_option maxRecDepth 100000 in
theorem wc_X1_isFixed : Cond.code yX1_isFixed cX1_isFixed 3 (Option.some Jvm.ClassFile.FieldType.boolean) ∈ GB := gb_t (List.mem_of_getElem? (i := 312) rfl) rfl
set_option maxRecDepth 100000 in
theorem wl_L_32 : (Jvm.Cond.methodLink "ReportBlocksLaw" (32 : Nat) ({ cls := "ReportBlocks", name := "table", desc := "(III)I" } : Jvm.MethodName)) ∈ GB := gb_t (List.mem_of_getElem? (i := 313) rfl) rfl
set_option maxRecDepth 100000 in
theorem wi_X7_table : (Jvm.Cond.instanceMethod ({ cls := "ReportBlocks", name := "table", desc := "(III)I" } : Jvm.MethodName)) ∈ GB := gb_t (List.mem_of_getElem? (i := 314) rfl) rfl
set_option maxRecDepth 100000 in
theorem wv_X7_table : (Jvm.Cond.selects "ReportBlocks" ({ cls := "ReportBlocks", name := "table", desc := "(III)I" } : Jvm.MethodName) ({ cls := "ReportBlocks", name := "table", desc := "(III)I" } : Jvm.MethodName)) ∈ GB := gb_t (List.mem_of_getElem? (i := 315) rfl) rfl
set_option maxRecDepth 100000 in
theorem wc_X7_table : Cond.code yX7_table cX7_table 5 (Option.some Jvm.ClassFile.FieldType.int) ∈ GB := gb_t (List.mem_of_getElem? (i := 316) rfl) rfl
set_option maxRecDepth 100000 in
theorem wl_L_38 : (Jvm.Cond.methodLink "ReportBlocksLaw" (38 : Nat) ({ cls := "ReportBlocks", name := "feed", desc := "(JI)I" } : Jvm.MethodName)) ∈ GB := gb_t (List.mem_of_getElem? (i := 317) rfl) rfl
set_option maxRecDepth 100000 in
theorem wi_X7_feed : (Jvm.Cond.instanceMethod ({ cls := "ReportBlocks", name := "feed", desc := "(JI)I" } : Jvm.MethodName)) ∈ GB := gb_t (List.mem_of_getElem? (i := 318) rfl) rfl
set_option maxRecDepth 100000 in
theorem wv_X7_feed : (Jvm.Cond.selects "ReportBlocks" ({ cls := "ReportBlocks", name := "feed", desc := "(JI)I" } : Jvm.MethodName) ({ cls := "ReportBlocks", name := "feed", desc := "(JI)I" } : Jvm.MethodName)) ∈ GB := gb_t (List.mem_of_getElem? (i := 319) rfl) rfl
set_option maxRecDepth 100000 in
theorem wc_X7_feed : Cond.code yX7_feed cX7_feed 5 (Option.some Jvm.ClassFile.FieldType.int) ∈ GB := gb_t (List.mem_of_getElem? (i := 320) rfl) rfl
set_option maxRecDepth 100000 in
theorem wl_X7_108 : (Jvm.Cond.methodLink "ReportBlocks" (108 : Nat) ({ cls := "ReportBlocks$Tape", name := "hasRoom", desc := "(I)Z" } : Jvm.MethodName)) ∈ GB := gb_t (List.mem_of_getElem? (i := 321) rfl) rfl
set_option maxRecDepth 100000 in
theorem wi_X4_hasRoom : (Jvm.Cond.instanceMethod ({ cls := "ReportBlocks$Tape", name := "hasRoom", desc := "(I)Z" } : Jvm.MethodName)) ∈ GB := gb_t (List.mem_of_getElem? (i := 322) rfl) rfl
set_option maxRecDepth 100000 in
theorem wv_X4_hasRoom : (Jvm.Cond.selects "ReportBlocks$Tape" ({ cls := "ReportBlocks$Tape", name := "hasRoom", desc := "(I)Z" } : Jvm.MethodName) ({ cls := "ReportBlocks$Tape", name := "hasRoom", desc := "(I)Z" } : Jvm.MethodName)) ∈ GB := gb_t (List.mem_of_getElem? (i := 323) rfl) rfl
set_option maxRecDepth 100000 in
theorem wc_X4_hasRoom : Cond.code yX4_hasRoom cX4_hasRoom 2 (Option.some Jvm.ClassFile.FieldType.boolean) ∈ GB := gb_t (List.mem_of_getElem? (i := 324) rfl) rfl
set_option maxRecDepth 100000 in
theorem wl_X7_111 : (Jvm.Cond.methodLink "ReportBlocks" (111 : Nat) ({ cls := "ReportBlocks$Tape", name := "put", desc := "(I)V" } : Jvm.MethodName)) ∈ GB := gb_t (List.mem_of_getElem? (i := 325) rfl) rfl
set_option maxRecDepth 100000 in
theorem wi_X4_put : (Jvm.Cond.instanceMethod ({ cls := "ReportBlocks$Tape", name := "put", desc := "(I)V" } : Jvm.MethodName)) ∈ GB := gb_t (List.mem_of_getElem? (i := 326) rfl) rfl
set_option maxRecDepth 100000 in
theorem wv_X4_put : (Jvm.Cond.selects "ReportBlocks$Tape" ({ cls := "ReportBlocks$Tape", name := "put", desc := "(I)V" } : Jvm.MethodName) ({ cls := "ReportBlocks$Tape", name := "put", desc := "(I)V" } : Jvm.MethodName)) ∈ GB := gb_t (List.mem_of_getElem? (i := 327) rfl) rfl
set_option maxRecDepth 100000 in
theorem wc_X4_put : Cond.code yX4_put cX4_put 2 (Option.none : Option Jvm.ClassFile.FieldType) ∈ GB := gb_t (List.mem_of_getElem? (i := 328) rfl) rfl
set_option maxRecDepth 100000 in
theorem wl_L_43 : (Jvm.Cond.methodLink "ReportBlocksLaw" (43 : Nat) ({ cls := "ReportBlocks", name := "tear", desc := "()I" } : Jvm.MethodName)) ∈ GB := gb_t (List.mem_of_getElem? (i := 329) rfl) rfl
set_option maxRecDepth 100000 in
theorem wi_X7_tear : (Jvm.Cond.instanceMethod ({ cls := "ReportBlocks", name := "tear", desc := "()I" } : Jvm.MethodName)) ∈ GB := gb_t (List.mem_of_getElem? (i := 330) rfl) rfl
set_option maxRecDepth 100000 in
theorem wv_X7_tear : (Jvm.Cond.selects "ReportBlocks" ({ cls := "ReportBlocks", name := "tear", desc := "()I" } : Jvm.MethodName) ({ cls := "ReportBlocks", name := "tear", desc := "()I" } : Jvm.MethodName)) ∈ GB := gb_t (List.mem_of_getElem? (i := 331) rfl) rfl
set_option maxRecDepth 100000 in
theorem wc_X7_tear : Cond.code yX7_tear cX7_tear 2 (Option.some Jvm.ClassFile.FieldType.int) ∈ GB := gb_t (List.mem_of_getElem? (i := 332) rfl) rfl
set_option maxRecDepth 100000 in
theorem wl_L_48 : (Jvm.Cond.methodLink "ReportBlocksLaw" (48 : Nat) ({ cls := "ReportBlocks", name := "read", desc := "()I" } : Jvm.MethodName)) ∈ GB := gb_t (List.mem_of_getElem? (i := 333) rfl) rfl
set_option maxRecDepth 100000 in
theorem wi_X7_read : (Jvm.Cond.instanceMethod ({ cls := "ReportBlocks", name := "read", desc := "()I" } : Jvm.MethodName)) ∈ GB := gb_t (List.mem_of_getElem? (i := 334) rfl) rfl
set_option maxRecDepth 100000 in
theorem wv_X7_read : (Jvm.Cond.selects "ReportBlocks" ({ cls := "ReportBlocks", name := "read", desc := "()I" } : Jvm.MethodName) ({ cls := "ReportBlocks", name := "read", desc := "()I" } : Jvm.MethodName)) ∈ GB := gb_t (List.mem_of_getElem? (i := 335) rfl) rfl
set_option maxRecDepth 100000 in
theorem wc_X7_read : Cond.code yX7_read cX7_read 2 (Option.some Jvm.ClassFile.FieldType.int) ∈ GB := gb_t (List.mem_of_getElem? (i := 336) rfl) rfl
set_option maxRecDepth 100000 in
theorem wl_X7_117 : (Jvm.Cond.methodLink "ReportBlocks" (117 : Nat) ({ cls := "ReportBlocks$Block", name := "clear", desc := "()V" } : Jvm.MethodName)) ∈ GB := gb_t (List.mem_of_getElem? (i := 337) rfl) rfl
set_option maxRecDepth 100000 in
theorem wi_X0_clear : (Jvm.Cond.instanceMethod ({ cls := "ReportBlocks$Block", name := "clear", desc := "()V" } : Jvm.MethodName)) ∈ GB := gb_t (List.mem_of_getElem? (i := 338) rfl) rfl
set_option maxRecDepth 100000 in
theorem wv_X0_clear : (Jvm.Cond.selects "ReportBlocks$Block" ({ cls := "ReportBlocks$Block", name := "clear", desc := "()V" } : Jvm.MethodName) ({ cls := "ReportBlocks$Block", name := "clear", desc := "()V" } : Jvm.MethodName)) ∈ GB := gb_t (List.mem_of_getElem? (i := 339) rfl) rfl
set_option maxRecDepth 100000 in
theorem wc_X0_clear : Cond.code yX0_clear cX0_clear 1 (Option.none : Option Jvm.ClassFile.FieldType) ∈ GB := gb_t (List.mem_of_getElem? (i := 340) rfl) rfl
set_option maxRecDepth 100000 in
theorem wl_X0_31 : (Jvm.Cond.methodLink "ReportBlocks$Block" (31 : Nat) ({ cls := "java/util/Arrays", name := "fill", desc := "([II)V" } : Jvm.MethodName)) ∈ GB := gb_t (List.mem_of_getElem? (i := 341) rfl) rfl
set_option maxRecDepth 100000 in
theorem wl_X7_120 : (Jvm.Cond.methodLink "ReportBlocks" (120 : Nat) ({ cls := "ReportBlocks$Reader", name := "start", desc := "(I)V" } : Jvm.MethodName)) ∈ GB := gb_t (List.mem_of_getElem? (i := 342) rfl) rfl
set_option maxRecDepth 100000 in
theorem wi_X3_start : (Jvm.Cond.instanceMethod ({ cls := "ReportBlocks$Reader", name := "start", desc := "(I)V" } : Jvm.MethodName)) ∈ GB := gb_t (List.mem_of_getElem? (i := 343) rfl) rfl
set_option maxRecDepth 100000 in
theorem wv_X3_start : (Jvm.Cond.selects "ReportBlocks$Reader" ({ cls := "ReportBlocks$Reader", name := "start", desc := "(I)V" } : Jvm.MethodName) ({ cls := "ReportBlocks$Reader", name := "start", desc := "(I)V" } : Jvm.MethodName)) ∈ GB := gb_t (List.mem_of_getElem? (i := 344) rfl) rfl
set_option maxRecDepth 100000 in
theorem wc_X3_start : Cond.code yX3_start cX3_start 2 (Option.none : Option Jvm.ClassFile.FieldType) ∈ GB := gb_t (List.mem_of_getElem? (i := 345) rfl) rfl
set_option maxRecDepth 100000 in
theorem wl_X7_123 : (Jvm.Cond.methodLink "ReportBlocks" (123 : Nat) ({ cls := "ReportBlocks", name := "passBlock", desc := "()V" } : Jvm.MethodName)) ∈ GB := gb_t (List.mem_of_getElem? (i := 346) rfl) rfl
set_option maxRecDepth 100000 in
theorem wi_X7_passBlock : (Jvm.Cond.instanceMethod ({ cls := "ReportBlocks", name := "passBlock", desc := "()V" } : Jvm.MethodName)) ∈ GB := gb_t (List.mem_of_getElem? (i := 348) rfl) rfl
set_option maxRecDepth 100000 in
theorem wc_X7_passBlock : Cond.code yX7_passBlock cX7_passBlock 5 (Option.none : Option Jvm.ClassFile.FieldType) ∈ GB := gb_t (List.mem_of_getElem? (i := 349) rfl) rfl
set_option maxRecDepth 100000 in
theorem wl_X7_278 : (Jvm.Cond.methodLink "ReportBlocks" (278 : Nat) ({ cls := "ReportBlocks$Reader", name := "fail", desc := "(II)V" } : Jvm.MethodName)) ∈ GB := gb_t (List.mem_of_getElem? (i := 350) rfl) rfl
set_option maxRecDepth 100000 in
theorem wi_X3_fail : (Jvm.Cond.instanceMethod ({ cls := "ReportBlocks$Reader", name := "fail", desc := "(II)V" } : Jvm.MethodName)) ∈ GB := gb_t (List.mem_of_getElem? (i := 351) rfl) rfl
set_option maxRecDepth 100000 in
theorem wv_X3_fail : (Jvm.Cond.selects "ReportBlocks$Reader" ({ cls := "ReportBlocks$Reader", name := "fail", desc := "(II)V" } : Jvm.MethodName) ({ cls := "ReportBlocks$Reader", name := "fail", desc := "(II)V" } : Jvm.MethodName)) ∈ GB := gb_t (List.mem_of_getElem? (i := 352) rfl) rfl
set_option maxRecDepth 100000 in
theorem wc_X3_fail : Cond.code yX3_fail cX3_fail 3 (Option.none : Option Jvm.ClassFile.FieldType) ∈ GB := gb_t (List.mem_of_getElem? (i := 353) rfl) rfl
set_option maxRecDepth 100000 in
theorem wl_X7_281 : (Jvm.Cond.methodLink "ReportBlocks" (281 : Nat) ({ cls := "ReportBlocks$Reader", name := "hasMore", desc := "()Z" } : Jvm.MethodName)) ∈ GB := gb_t (List.mem_of_getElem? (i := 354) rfl) rfl
set_option maxRecDepth 100000 in
theorem wi_X3_hasMore : (Jvm.Cond.instanceMethod ({ cls := "ReportBlocks$Reader", name := "hasMore", desc := "()Z" } : Jvm.MethodName)) ∈ GB := gb_t (List.mem_of_getElem? (i := 355) rfl) rfl
set_option maxRecDepth 100000 in
theorem wv_X3_hasMore : (Jvm.Cond.selects "ReportBlocks$Reader" ({ cls := "ReportBlocks$Reader", name := "hasMore", desc := "()Z" } : Jvm.MethodName) ({ cls := "ReportBlocks$Reader", name := "hasMore", desc := "()Z" } : Jvm.MethodName)) ∈ GB := gb_t (List.mem_of_getElem? (i := 356) rfl) rfl
set_option maxRecDepth 100000 in
theorem wc_X3_hasMore : Cond.code yX3_hasMore cX3_hasMore 1 (Option.some Jvm.ClassFile.FieldType.boolean) ∈ GB := gb_t (List.mem_of_getElem? (i := 357) rfl) rfl
set_option maxRecDepth 100000 in
theorem wl_X7_284 : (Jvm.Cond.methodLink "ReportBlocks" (284 : Nat) ({ cls := "ReportBlocks$Reader", name := "passRecord", desc := "(LReportBlocks$Block;)V" } : Jvm.MethodName)) ∈ GB := gb_t (List.mem_of_getElem? (i := 358) rfl) rfl
set_option maxRecDepth 100000 in
theorem wi_X3_passRecord : (Jvm.Cond.instanceMethod ({ cls := "ReportBlocks$Reader", name := "passRecord", desc := "(LReportBlocks$Block;)V" } : Jvm.MethodName)) ∈ GB := gb_t (List.mem_of_getElem? (i := 359) rfl) rfl
set_option maxRecDepth 100000 in
theorem wv_X3_passRecord : (Jvm.Cond.selects "ReportBlocks$Reader" ({ cls := "ReportBlocks$Reader", name := "passRecord", desc := "(LReportBlocks$Block;)V" } : Jvm.MethodName) ({ cls := "ReportBlocks$Reader", name := "passRecord", desc := "(LReportBlocks$Block;)V" } : Jvm.MethodName)) ∈ GB := gb_t (List.mem_of_getElem? (i := 360) rfl) rfl
set_option maxRecDepth 100000 in
theorem wc_X3_passRecord : Cond.code yX3_passRecord cX3_passRecord 7 (Option.none : Option Jvm.ClassFile.FieldType) ∈ GB := gb_t (List.mem_of_getElem? (i := 361) rfl) rfl
set_option maxRecDepth 100000 in
theorem wl_X3_31 : (Jvm.Cond.methodLink "ReportBlocks$Reader" (31 : Nat) ({ cls := "ReportBlocks$Reader", name := "passBits", desc := "(I)I" } : Jvm.MethodName)) ∈ GB := gb_t (List.mem_of_getElem? (i := 362) rfl) rfl
set_option maxRecDepth 100000 in
theorem wi_X3_passBits : (Jvm.Cond.instanceMethod ({ cls := "ReportBlocks$Reader", name := "passBits", desc := "(I)I" } : Jvm.MethodName)) ∈ GB := gb_t (List.mem_of_getElem? (i := 364) rfl) rfl
set_option maxRecDepth 100000 in
theorem wc_X3_passBits : Cond.code yX3_passBits cX3_passBits 5 (Option.some Jvm.ClassFile.FieldType.int) ∈ GB := gb_t (List.mem_of_getElem? (i := 365) rfl) rfl
set_option maxRecDepth 100000 in
theorem wl_X3_56 : (Jvm.Cond.methodLink "ReportBlocks$Reader" (56 : Nat) ({ cls := "ReportBlocks$Reader", name := "fail", desc := "(II)V" } : Jvm.MethodName)) ∈ GB := gb_t (List.mem_of_getElem? (i := 366) rfl) rfl
set_option maxRecDepth 100000 in
theorem wl_X3_35 : (Jvm.Cond.methodLink "ReportBlocks$Reader" (35 : Nat) ({ cls := "ReportBlocks$Reader", name := "lookForPlaces", desc := "(II)V" } : Jvm.MethodName)) ∈ GB := gb_t (List.mem_of_getElem? (i := 367) rfl) rfl
set_option maxRecDepth 100000 in
theorem wi_X3_lookForPlaces : (Jvm.Cond.instanceMethod ({ cls := "ReportBlocks$Reader", name := "lookForPlaces", desc := "(II)V" } : Jvm.MethodName)) ∈ GB := gb_t (List.mem_of_getElem? (i := 369) rfl) rfl
set_option maxRecDepth 100000 in
theorem wc_X3_lookForPlaces : Cond.code yX3_lookForPlaces cX3_lookForPlaces 4 (Option.none : Option Jvm.ClassFile.FieldType) ∈ GB := gb_t (List.mem_of_getElem? (i := 370) rfl) rfl
set_option maxRecDepth 100000 in
theorem wz_X3_44 : (Jvm.Cond.methodLinkNest "ReportBlocks$Reader" (44 : Nat) ({ cls := "ReportBlocks", name := "isOne", desc := "([III)Z" } : Jvm.MethodName) "ReportBlocks") ∈ lw_tbl := List.mem_append_right _ (List.mem_of_getElem? (i := 371) rfl)
def nw_X3_44 : Cond := (Jvm.Cond.methodLinkNest "ReportBlocks$Reader" (44 : Nat) ({ cls := "ReportBlocks", name := "isOne", desc := "([III)Z" } : Jvm.MethodName) "ReportBlocks")
set_option maxRecDepth 100000 in
theorem wt_X7_isOne : (Jvm.Cond.static ({ cls := "ReportBlocks", name := "isOne", desc := "([III)Z" } : Jvm.MethodName)) ∈ GB := gb_t (List.mem_of_getElem? (i := 372) rfl) rfl
set_option maxRecDepth 100000 in
theorem wc_X7_isOne : Cond.code yX7_isOne cX7_isOne 4 (Option.some Jvm.ClassFile.FieldType.boolean) ∈ GB := gb_t (List.mem_of_getElem? (i := 373) rfl) rfl
set_option maxRecDepth 100000 in
theorem wl_X3_39 : (Jvm.Cond.methodLink "ReportBlocks$Reader" (39 : Nat) ({ cls := "ReportBlocks$Block", name := "startRecord", desc := "(I)I" } : Jvm.MethodName)) ∈ GB := gb_t (List.mem_of_getElem? (i := 374) rfl) rfl
set_option maxRecDepth 100000 in
theorem wi_X0_startRecord : (Jvm.Cond.instanceMethod ({ cls := "ReportBlocks$Block", name := "startRecord", desc := "(I)I" } : Jvm.MethodName)) ∈ GB := gb_t (List.mem_of_getElem? (i := 375) rfl) rfl
set_option maxRecDepth 100000 in
theorem wv_X0_startRecord : (Jvm.Cond.selects "ReportBlocks$Block" ({ cls := "ReportBlocks$Block", name := "startRecord", desc := "(I)I" } : Jvm.MethodName) ({ cls := "ReportBlocks$Block", name := "startRecord", desc := "(I)I" } : Jvm.MethodName)) ∈ GB := gb_t (List.mem_of_getElem? (i := 376) rfl) rfl
set_option maxRecDepth 100000 in
theorem wc_X0_startRecord : Cond.code yX0_startRecord cX0_startRecord 2 (Option.some Jvm.ClassFile.FieldType.int) ∈ GB := gb_t (List.mem_of_getElem? (i := 377) rfl) rfl
set_option maxRecDepth 100000 in
theorem wl_X3_48 : (Jvm.Cond.methodLink "ReportBlocks$Reader" (48 : Nat) ({ cls := "ReportBlocks$Reader", name := "passItem", desc := "(I)V" } : Jvm.MethodName)) ∈ GB := gb_t (List.mem_of_getElem? (i := 378) rfl) rfl
set_option maxRecDepth 100000 in
theorem wi_X3_passItem : (Jvm.Cond.instanceMethod ({ cls := "ReportBlocks$Reader", name := "passItem", desc := "(I)V" } : Jvm.MethodName)) ∈ GB := gb_t (List.mem_of_getElem? (i := 379) rfl) rfl
set_option maxRecDepth 100000 in
theorem wv_X3_passItem : (Jvm.Cond.selects "ReportBlocks$Reader" ({ cls := "ReportBlocks$Reader", name := "passItem", desc := "(I)V" } : Jvm.MethodName) ({ cls := "ReportBlocks$Reader", name := "passItem", desc := "(I)V" } : Jvm.MethodName)) ∈ GB := gb_t (List.mem_of_getElem? (i := 380) rfl) rfl
set_option maxRecDepth 100000 in
theorem wc_X3_passItem : Cond.code yX3_passItem cX3_passItem 2 (Option.none : Option Jvm.ClassFile.FieldType) ∈ GB := gb_t (List.mem_of_getElem? (i := 381) rfl) rfl
set_option maxRecDepth 100000 in
theorem wl_X3_71 : (Jvm.Cond.methodLink "ReportBlocks$Reader" (71 : Nat) ({ cls := "ReportBlocks$Reader", name := "pass", desc := "(I)V" } : Jvm.MethodName)) ∈ GB := gb_t (List.mem_of_getElem? (i := 382) rfl) rfl
set_option maxRecDepth 100000 in
theorem wi_X3_pass : (Jvm.Cond.instanceMethod ({ cls := "ReportBlocks$Reader", name := "pass", desc := "(I)V" } : Jvm.MethodName)) ∈ GB := gb_t (List.mem_of_getElem? (i := 384) rfl) rfl
set_option maxRecDepth 100000 in
theorem wc_X3_pass : Cond.code yX3_pass cX3_pass 2 (Option.none : Option Jvm.ClassFile.FieldType) ∈ GB := gb_t (List.mem_of_getElem? (i := 385) rfl) rfl
set_option maxRecDepth 100000 in
theorem wl_X3_74 : (Jvm.Cond.methodLink "ReportBlocks$Reader" (74 : Nat) ({ cls := "ReportBlocks$Reader", name := "passGoing", desc := "()V" } : Jvm.MethodName)) ∈ GB := gb_t (List.mem_of_getElem? (i := 386) rfl) rfl
set_option maxRecDepth 100000 in
theorem wi_X3_passGoing : (Jvm.Cond.instanceMethod ({ cls := "ReportBlocks$Reader", name := "passGoing", desc := "()V" } : Jvm.MethodName)) ∈ GB := gb_t (List.mem_of_getElem? (i := 388) rfl) rfl
set_option maxRecDepth 100000 in
theorem wc_X3_passGoing : Cond.code yX3_passGoing cX3_passGoing 3 (Option.none : Option Jvm.ClassFile.FieldType) ∈ GB := gb_t (List.mem_of_getElem? (i := 389) rfl) rfl
set_option maxRecDepth 100000 in
theorem wl_X3_77 : (Jvm.Cond.methodLink "ReportBlocks$Reader" (77 : Nat) ({ cls := "ReportBlocks$Reader", name := "passAgain", desc := "(I)V" } : Jvm.MethodName)) ∈ GB := gb_t (List.mem_of_getElem? (i := 390) rfl) rfl
set_option maxRecDepth 100000 in
theorem wi_X3_passAgain : (Jvm.Cond.instanceMethod ({ cls := "ReportBlocks$Reader", name := "passAgain", desc := "(I)V" } : Jvm.MethodName)) ∈ GB := gb_t (List.mem_of_getElem? (i := 392) rfl) rfl
set_option maxRecDepth 100000 in
theorem wc_X3_passAgain : Cond.code yX3_passAgain cX3_passAgain 3 (Option.none : Option Jvm.ClassFile.FieldType) ∈ GB := gb_t (List.mem_of_getElem? (i := 393) rfl) rfl
set_option maxRecDepth 100000 in
theorem wl_X3_80 : (Jvm.Cond.methodLink "ReportBlocks$Reader" (80 : Nat) ({ cls := "ReportBlocks$Reader", name := "passMade", desc := "(I)V" } : Jvm.MethodName)) ∈ GB := gb_t (List.mem_of_getElem? (i := 394) rfl) rfl
set_option maxRecDepth 100000 in
theorem wi_X3_passMade : (Jvm.Cond.instanceMethod ({ cls := "ReportBlocks$Reader", name := "passMade", desc := "(I)V" } : Jvm.MethodName)) ∈ GB := gb_t (List.mem_of_getElem? (i := 396) rfl) rfl
set_option maxRecDepth 100000 in
theorem wc_X3_passMade : Cond.code yX3_passMade cX3_passMade 5 (Option.none : Option Jvm.ClassFile.FieldType) ∈ GB := gb_t (List.mem_of_getElem? (i := 397) rfl) rfl
set_option maxRecDepth 100000 in
theorem wl_X3_83 : (Jvm.Cond.methodLink "ReportBlocks$Reader" (83 : Nat) ({ cls := "ReportBlocks$Category", name := "partBytes", desc := "(II)I" } : Jvm.MethodName)) ∈ GB := gb_t (List.mem_of_getElem? (i := 398) rfl) rfl
set_option maxRecDepth 100000 in
theorem wl_X3_52 : (Jvm.Cond.methodLink "ReportBlocks$Reader" (52 : Nat) ({ cls := "ReportBlocks$Block", name := "putItem", desc := "(IIII)V" } : Jvm.MethodName)) ∈ GB := gb_t (List.mem_of_getElem? (i := 399) rfl) rfl
set_option maxRecDepth 100000 in
theorem wi_X0_putItem : (Jvm.Cond.instanceMethod ({ cls := "ReportBlocks$Block", name := "putItem", desc := "(IIII)V" } : Jvm.MethodName)) ∈ GB := gb_t (List.mem_of_getElem? (i := 400) rfl) rfl
set_option maxRecDepth 100000 in
theorem wv_X0_putItem : (Jvm.Cond.selects "ReportBlocks$Block" ({ cls := "ReportBlocks$Block", name := "putItem", desc := "(IIII)V" } : Jvm.MethodName) ({ cls := "ReportBlocks$Block", name := "putItem", desc := "(IIII)V" } : Jvm.MethodName)) ∈ GB := gb_t (List.mem_of_getElem? (i := 401) rfl) rfl
set_option maxRecDepth 100000 in
theorem wc_X0_putItem : Cond.code yX0_putItem cX0_putItem 5 (Option.none : Option Jvm.ClassFile.FieldType) ∈ GB := gb_t (List.mem_of_getElem? (i := 402) rfl) rfl
set_option maxRecDepth 100000 in
theorem wl_X0_46 : (Jvm.Cond.methodLink "ReportBlocks$Block" (46 : Nat) ({ cls := "ReportBlocks$Block", name := "slot", desc := "(II)I" } : Jvm.MethodName)) ∈ GB := gb_t (List.mem_of_getElem? (i := 403) rfl) rfl
set_option maxRecDepth 100000 in
theorem wt_X0_slot : (Jvm.Cond.static ({ cls := "ReportBlocks$Block", name := "slot", desc := "(II)I" } : Jvm.MethodName)) ∈ GB := gb_t (List.mem_of_getElem? (i := 404) rfl) rfl
set_option maxRecDepth 100000 in
theorem wc_X0_slot : Cond.code yX0_slot cX0_slot 2 (Option.some Jvm.ClassFile.FieldType.int) ∈ GB := gb_t (List.mem_of_getElem? (i := 405) rfl) rfl
set_option maxRecDepth 100000 in
theorem wl_X7_288 : (Jvm.Cond.methodLink "ReportBlocks" (288 : Nat) ({ cls := "ReportBlocks$Reader", name := "refuseRecord", desc := "()V" } : Jvm.MethodName)) ∈ GB := gb_t (List.mem_of_getElem? (i := 406) rfl) rfl
set_option maxRecDepth 100000 in
theorem wi_X3_refuseRecord : (Jvm.Cond.instanceMethod ({ cls := "ReportBlocks$Reader", name := "refuseRecord", desc := "()V" } : Jvm.MethodName)) ∈ GB := gb_t (List.mem_of_getElem? (i := 407) rfl) rfl
set_option maxRecDepth 100000 in
theorem wv_X3_refuseRecord : (Jvm.Cond.selects "ReportBlocks$Reader" ({ cls := "ReportBlocks$Reader", name := "refuseRecord", desc := "()V" } : Jvm.MethodName) ({ cls := "ReportBlocks$Reader", name := "refuseRecord", desc := "()V" } : Jvm.MethodName)) ∈ GB := gb_t (List.mem_of_getElem? (i := 408) rfl) rfl
set_option maxRecDepth 100000 in
theorem wc_X3_refuseRecord : Cond.code yX3_refuseRecord cX3_refuseRecord 2 (Option.none : Option Jvm.ClassFile.FieldType) ∈ GB := gb_t (List.mem_of_getElem? (i := 409) rfl) rfl
set_option maxRecDepth 100000 in
theorem wl_X7_141 : (Jvm.Cond.methodLink "ReportBlocks" (141 : Nat) ({ cls := "ReportBlocks$Block", name := "keepBytes", desc := "([II)V" } : Jvm.MethodName)) ∈ GB := gb_t (List.mem_of_getElem? (i := 410) rfl) rfl
set_option maxRecDepth 100000 in
theorem wi_X0_keepBytes : (Jvm.Cond.instanceMethod ({ cls := "ReportBlocks$Block", name := "keepBytes", desc := "([II)V" } : Jvm.MethodName)) ∈ GB := gb_t (List.mem_of_getElem? (i := 411) rfl) rfl
set_option maxRecDepth 100000 in
theorem wv_X0_keepBytes : (Jvm.Cond.selects "ReportBlocks$Block" ({ cls := "ReportBlocks$Block", name := "keepBytes", desc := "([II)V" } : Jvm.MethodName) ({ cls := "ReportBlocks$Block", name := "keepBytes", desc := "([II)V" } : Jvm.MethodName)) ∈ GB := gb_t (List.mem_of_getElem? (i := 412) rfl) rfl
set_option maxRecDepth 100000 in
theorem wc_X0_keepBytes : Cond.code yX0_keepBytes cX0_keepBytes 3 (Option.none : Option Jvm.ClassFile.FieldType) ∈ GB := gb_t (List.mem_of_getElem? (i := 413) rfl) rfl
set_option maxRecDepth 100000 in
theorem wl_X0_37 : (Jvm.Cond.methodLink "ReportBlocks$Block" (37 : Nat) ({ cls := "java/lang/System", name := "arraycopy", desc := "(Ljava/lang/Object;ILjava/lang/Object;II)V" } : Jvm.MethodName)) ∈ GB := gb_t (List.mem_of_getElem? (i := 414) rfl) rfl
set_option maxRecDepth 100000 in
theorem wt_arraycopy : (Jvm.Cond.static ({ cls := "java/lang/System", name := "arraycopy", desc := "(Ljava/lang/Object;ILjava/lang/Object;II)V" } : Jvm.MethodName)) ∈ GB := gb_t (List.mem_of_getElem? (i := 415) rfl) rfl
set_option maxRecDepth 100000 in
theorem wa_arraycopy : (Jvm.Cond.native ({ cls := "java/lang/System", name := "arraycopy", desc := "(Ljava/lang/Object;ILjava/lang/Object;II)V" } : Jvm.MethodName)) ∈ GB := gb_t (List.mem_of_getElem? (i := 416) rfl) rfl
set_option maxRecDepth 100000 in
theorem wl_X7_145 : (Jvm.Cond.methodLink "ReportBlocks" (145 : Nat) ({ cls := "ReportBlocks$Tape", name := "dropFirst", desc := "(I)V" } : Jvm.MethodName)) ∈ GB := gb_t (List.mem_of_getElem? (i := 417) rfl) rfl
set_option maxRecDepth 100000 in
theorem wi_X4_dropFirst : (Jvm.Cond.instanceMethod ({ cls := "ReportBlocks$Tape", name := "dropFirst", desc := "(I)V" } : Jvm.MethodName)) ∈ GB := gb_t (List.mem_of_getElem? (i := 418) rfl) rfl
set_option maxRecDepth 100000 in
theorem wv_X4_dropFirst : (Jvm.Cond.selects "ReportBlocks$Tape" ({ cls := "ReportBlocks$Tape", name := "dropFirst", desc := "(I)V" } : Jvm.MethodName) ({ cls := "ReportBlocks$Tape", name := "dropFirst", desc := "(I)V" } : Jvm.MethodName)) ∈ GB := gb_t (List.mem_of_getElem? (i := 419) rfl) rfl
set_option maxRecDepth 100000 in
theorem wc_X4_dropFirst : Cond.code yX4_dropFirst cX4_dropFirst 3 (Option.none : Option Jvm.ClassFile.FieldType) ∈ GB := gb_t (List.mem_of_getElem? (i := 420) rfl) rfl
set_option maxRecDepth 100000 in
theorem wl_L_52 : (Jvm.Cond.methodLink "ReportBlocksLaw" (52 : Nat) ({ cls := "ReportBlocks", name := "fault", desc := "()I" } : Jvm.MethodName)) ∈ GB := gb_t (List.mem_of_getElem? (i := 421) rfl) rfl
set_option maxRecDepth 100000 in
theorem wi_X7_fault : (Jvm.Cond.instanceMethod ({ cls := "ReportBlocks", name := "fault", desc := "()I" } : Jvm.MethodName)) ∈ GB := gb_t (List.mem_of_getElem? (i := 422) rfl) rfl
set_option maxRecDepth 100000 in
theorem wv_X7_fault : (Jvm.Cond.selects "ReportBlocks" ({ cls := "ReportBlocks", name := "fault", desc := "()I" } : Jvm.MethodName) ({ cls := "ReportBlocks", name := "fault", desc := "()I" } : Jvm.MethodName)) ∈ GB := gb_t (List.mem_of_getElem? (i := 423) rfl) rfl
set_option maxRecDepth 100000 in
theorem wc_X7_fault : Cond.code yX7_fault cX7_fault 1 (Option.some Jvm.ClassFile.FieldType.int) ∈ GB := gb_t (List.mem_of_getElem? (i := 424) rfl) rfl
set_option maxRecDepth 100000 in
theorem wl_L_56 : (Jvm.Cond.methodLink "ReportBlocksLaw" (56 : Nat) ({ cls := "ReportBlocks", name := "records", desc := "(I)I" } : Jvm.MethodName)) ∈ GB := gb_t (List.mem_of_getElem? (i := 425) rfl) rfl
set_option maxRecDepth 100000 in
theorem wi_X7_records : (Jvm.Cond.instanceMethod ({ cls := "ReportBlocks", name := "records", desc := "(I)I" } : Jvm.MethodName)) ∈ GB := gb_t (List.mem_of_getElem? (i := 426) rfl) rfl
set_option maxRecDepth 100000 in
theorem wv_X7_records : (Jvm.Cond.selects "ReportBlocks" ({ cls := "ReportBlocks", name := "records", desc := "(I)I" } : Jvm.MethodName) ({ cls := "ReportBlocks", name := "records", desc := "(I)I" } : Jvm.MethodName)) ∈ GB := gb_t (List.mem_of_getElem? (i := 427) rfl) rfl
set_option maxRecDepth 100000 in
theorem wc_X7_records : Cond.code yX7_records cX7_records 2 (Option.some Jvm.ClassFile.FieldType.int) ∈ GB := gb_t (List.mem_of_getElem? (i := 428) rfl) rfl
set_option maxRecDepth 100000 in
theorem wl_L_60 : (Jvm.Cond.methodLink "ReportBlocksLaw" (60 : Nat) ({ cls := "ReportBlocks", name := "has", desc := "(III)I" } : Jvm.MethodName)) ∈ GB := gb_t (List.mem_of_getElem? (i := 429) rfl) rfl
set_option maxRecDepth 100000 in
theorem wi_X7_has : (Jvm.Cond.instanceMethod ({ cls := "ReportBlocks", name := "has", desc := "(III)I" } : Jvm.MethodName)) ∈ GB := gb_t (List.mem_of_getElem? (i := 430) rfl) rfl
set_option maxRecDepth 100000 in
theorem wv_X7_has : (Jvm.Cond.selects "ReportBlocks" ({ cls := "ReportBlocks", name := "has", desc := "(III)I" } : Jvm.MethodName) ({ cls := "ReportBlocks", name := "has", desc := "(III)I" } : Jvm.MethodName)) ∈ GB := gb_t (List.mem_of_getElem? (i := 431) rfl) rfl
set_option maxRecDepth 100000 in
theorem wc_X7_has : Cond.code yX7_has cX7_has 4 (Option.some Jvm.ClassFile.FieldType.int) ∈ GB := gb_t (List.mem_of_getElem? (i := 432) rfl) rfl
set_option maxRecDepth 100000 in
theorem wl_X7_157 : (Jvm.Cond.methodLink "ReportBlocks" (157 : Nat) ({ cls := "ReportBlocks", name := "isRecord", desc := "(I)Z" } : Jvm.MethodName)) ∈ GB := gb_t (List.mem_of_getElem? (i := 433) rfl) rfl
set_option maxRecDepth 100000 in
theorem wi_X7_isRecord : (Jvm.Cond.instanceMethod ({ cls := "ReportBlocks", name := "isRecord", desc := "(I)Z" } : Jvm.MethodName)) ∈ GB := gb_t (List.mem_of_getElem? (i := 435) rfl) rfl
set_option maxRecDepth 100000 in
theorem wc_X7_isRecord : Cond.code yX7_isRecord cX7_isRecord 2 (Option.some Jvm.ClassFile.FieldType.boolean) ∈ GB := gb_t (List.mem_of_getElem? (i := 436) rfl) rfl
set_option maxRecDepth 100000 in
theorem wl_X7_160 : (Jvm.Cond.methodLink "ReportBlocks" (160 : Nat) ({ cls := "ReportBlocks$Block", name := "sizeOf", desc := "(II)I" } : Jvm.MethodName)) ∈ GB := gb_t (List.mem_of_getElem? (i := 437) rfl) rfl
set_option maxRecDepth 100000 in
theorem wi_X0_sizeOf : (Jvm.Cond.instanceMethod ({ cls := "ReportBlocks$Block", name := "sizeOf", desc := "(II)I" } : Jvm.MethodName)) ∈ GB := gb_t (List.mem_of_getElem? (i := 438) rfl) rfl
set_option maxRecDepth 100000 in
theorem wv_X0_sizeOf : (Jvm.Cond.selects "ReportBlocks$Block" ({ cls := "ReportBlocks$Block", name := "sizeOf", desc := "(II)I" } : Jvm.MethodName) ({ cls := "ReportBlocks$Block", name := "sizeOf", desc := "(II)I" } : Jvm.MethodName)) ∈ GB := gb_t (List.mem_of_getElem? (i := 439) rfl) rfl
set_option maxRecDepth 100000 in
theorem wc_X0_sizeOf : Cond.code yX0_sizeOf cX0_sizeOf 3 (Option.some Jvm.ClassFile.FieldType.int) ∈ GB := gb_t (List.mem_of_getElem? (i := 440) rfl) rfl
set_option maxRecDepth 100000 in
theorem wl_X7_163 : (Jvm.Cond.methodLink "ReportBlocks" (163 : Nat) ({ cls := "ReportBlocks$Block", name := "beginOf", desc := "(II)I" } : Jvm.MethodName)) ∈ GB := gb_t (List.mem_of_getElem? (i := 441) rfl) rfl
set_option maxRecDepth 100000 in
theorem wi_X0_beginOf : (Jvm.Cond.instanceMethod ({ cls := "ReportBlocks$Block", name := "beginOf", desc := "(II)I" } : Jvm.MethodName)) ∈ GB := gb_t (List.mem_of_getElem? (i := 442) rfl) rfl
set_option maxRecDepth 100000 in
theorem wv_X0_beginOf : (Jvm.Cond.selects "ReportBlocks$Block" ({ cls := "ReportBlocks$Block", name := "beginOf", desc := "(II)I" } : Jvm.MethodName) ({ cls := "ReportBlocks$Block", name := "beginOf", desc := "(II)I" } : Jvm.MethodName)) ∈ GB := gb_t (List.mem_of_getElem? (i := 443) rfl) rfl
set_option maxRecDepth 100000 in
theorem wc_X0_beginOf : Cond.code yX0_beginOf cX0_beginOf 3 (Option.some Jvm.ClassFile.FieldType.int) ∈ GB := gb_t (List.mem_of_getElem? (i := 444) rfl) rfl
set_option maxRecDepth 100000 in
theorem wl_X0_50 : (Jvm.Cond.methodLink "ReportBlocks$Block" (50 : Nat) ({ cls := "ReportBlocks$Block", name := "sizeOf", desc := "(II)I" } : Jvm.MethodName)) ∈ GB := gb_t (List.mem_of_getElem? (i := 445) rfl) rfl
set_option maxRecDepth 100000 in
theorem wl_L_64 : (Jvm.Cond.methodLink "ReportBlocksLaw" (64 : Nat) ({ cls := "ReportBlocks", name := "at", desc := "(III)I" } : Jvm.MethodName)) ∈ GB := gb_t (List.mem_of_getElem? (i := 446) rfl) rfl
set_option maxRecDepth 100000 in
theorem wi_X7_at : (Jvm.Cond.instanceMethod ({ cls := "ReportBlocks", name := "at", desc := "(III)I" } : Jvm.MethodName)) ∈ GB := gb_t (List.mem_of_getElem? (i := 447) rfl) rfl
set_option maxRecDepth 100000 in
theorem wv_X7_at : (Jvm.Cond.selects "ReportBlocks" ({ cls := "ReportBlocks", name := "at", desc := "(III)I" } : Jvm.MethodName) ({ cls := "ReportBlocks", name := "at", desc := "(III)I" } : Jvm.MethodName)) ∈ GB := gb_t (List.mem_of_getElem? (i := 448) rfl) rfl
set_option maxRecDepth 100000 in
theorem wc_X7_at : Cond.code yX7_at cX7_at 4 (Option.some Jvm.ClassFile.FieldType.int) ∈ GB := gb_t (List.mem_of_getElem? (i := 449) rfl) rfl
set_option maxRecDepth 100000 in
theorem wl_L_68 : (Jvm.Cond.methodLink "ReportBlocksLaw" (68 : Nat) ({ cls := "ReportBlocks", name := "number", desc := "(III)J" } : Jvm.MethodName)) ∈ GB := gb_t (List.mem_of_getElem? (i := 450) rfl) rfl
set_option maxRecDepth 100000 in
theorem wi_X7_number : (Jvm.Cond.instanceMethod ({ cls := "ReportBlocks", name := "number", desc := "(III)J" } : Jvm.MethodName)) ∈ GB := gb_t (List.mem_of_getElem? (i := 451) rfl) rfl
set_option maxRecDepth 100000 in
theorem wv_X7_number : (Jvm.Cond.selects "ReportBlocks" ({ cls := "ReportBlocks", name := "number", desc := "(III)J" } : Jvm.MethodName) ({ cls := "ReportBlocks", name := "number", desc := "(III)J" } : Jvm.MethodName)) ∈ GB := gb_t (List.mem_of_getElem? (i := 452) rfl) rfl
set_option maxRecDepth 100000 in
theorem wc_X7_number : Cond.code yX7_number cX7_number 8 (Option.some Jvm.ClassFile.FieldType.long) ∈ GB := gb_t (List.mem_of_getElem? (i := 453) rfl) rfl
set_option maxRecDepth 100000 in
theorem wo_X7_167 : (Jvm.Cond.constantLong "ReportBlocks" (167 : Nat) (-1 : Int64)) ∈ GB := gb_t (List.mem_of_getElem? (i := 454) rfl) rfl
set_option maxRecDepth 100000 in
theorem wo_X7_169 : (Jvm.Cond.constantLong "ReportBlocks" (169 : Nat) (-9 : Int64)) ∈ GB := gb_t (List.mem_of_getElem? (i := 455) rfl) rfl
set_option maxRecDepth 100000 in
theorem wl_X7_171 : (Jvm.Cond.methodLink "ReportBlocks" (171 : Nat) ({ cls := "ReportBlocks$Block", name := "joined", desc := "(II)J" } : Jvm.MethodName)) ∈ GB := gb_t (List.mem_of_getElem? (i := 456) rfl) rfl
set_option maxRecDepth 100000 in
theorem wi_X0_joined : (Jvm.Cond.instanceMethod ({ cls := "ReportBlocks$Block", name := "joined", desc := "(II)J" } : Jvm.MethodName)) ∈ GB := gb_t (List.mem_of_getElem? (i := 457) rfl) rfl
set_option maxRecDepth 100000 in
theorem wv_X0_joined : (Jvm.Cond.selects "ReportBlocks$Block" ({ cls := "ReportBlocks$Block", name := "joined", desc := "(II)J" } : Jvm.MethodName) ({ cls := "ReportBlocks$Block", name := "joined", desc := "(II)J" } : Jvm.MethodName)) ∈ GB := gb_t (List.mem_of_getElem? (i := 458) rfl) rfl
set_option maxRecDepth 100000 in
theorem wc_X0_joined : Cond.code yX0_joined cX0_joined 6 (Option.some Jvm.ClassFile.FieldType.long) ∈ GB := gb_t (List.mem_of_getElem? (i := 459) rfl) rfl
set_option maxRecDepth 100000 in
theorem wl_X7_175 : (Jvm.Cond.methodLink "ReportBlocks" (175 : Nat) ({ cls := "ReportBlocks", name := "partNumber", desc := "(LReportBlocks$Category;III)J" } : Jvm.MethodName)) ∈ GB := gb_t (List.mem_of_getElem? (i := 460) rfl) rfl
set_option maxRecDepth 100000 in
theorem wi_X7_partNumber : (Jvm.Cond.instanceMethod ({ cls := "ReportBlocks", name := "partNumber", desc := "(LReportBlocks$Category;III)J" } : Jvm.MethodName)) ∈ GB := gb_t (List.mem_of_getElem? (i := 462) rfl) rfl
set_option maxRecDepth 100000 in
theorem wc_X7_partNumber : Cond.code yX7_partNumber cX7_partNumber 8 (Option.some Jvm.ClassFile.FieldType.long) ∈ GB := gb_t (List.mem_of_getElem? (i := 463) rfl) rfl
set_option maxRecDepth 100000 in
theorem wl_X7_291 : (Jvm.Cond.methodLink "ReportBlocks" (291 : Nat) ({ cls := "ReportBlocks", name := "isOne", desc := "([III)Z" } : Jvm.MethodName)) ∈ GB := gb_t (List.mem_of_getElem? (i := 464) rfl) rfl
set_option maxRecDepth 100000 in
theorem wl_L_73 : (Jvm.Cond.methodLink "ReportBlocksLaw" (73 : Nat) ({ cls := "ReportBlocks", name := "begin", desc := "(I)I" } : Jvm.MethodName)) ∈ GB := gb_t (List.mem_of_getElem? (i := 465) rfl) rfl
set_option maxRecDepth 100000 in
theorem wi_X7_begin : (Jvm.Cond.instanceMethod ({ cls := "ReportBlocks", name := "begin", desc := "(I)I" } : Jvm.MethodName)) ∈ GB := gb_t (List.mem_of_getElem? (i := 466) rfl) rfl
set_option maxRecDepth 100000 in
theorem wv_X7_begin : (Jvm.Cond.selects "ReportBlocks" ({ cls := "ReportBlocks", name := "begin", desc := "(I)I" } : Jvm.MethodName) ({ cls := "ReportBlocks", name := "begin", desc := "(I)I" } : Jvm.MethodName)) ∈ GB := gb_t (List.mem_of_getElem? (i := 467) rfl) rfl
set_option maxRecDepth 100000 in
theorem wc_X7_begin : Cond.code yX7_begin cX7_begin 2 (Option.some Jvm.ClassFile.FieldType.int) ∈ GB := gb_t (List.mem_of_getElem? (i := 468) rfl) rfl
set_option maxRecDepth 100000 in
theorem wl_X7_179 : (Jvm.Cond.methodLink "ReportBlocks" (179 : Nat) ({ cls := "ReportBlocks$OwnRecord", name := "startFor", desc := "(I)V" } : Jvm.MethodName)) ∈ GB := gb_t (List.mem_of_getElem? (i := 469) rfl) rfl
set_option maxRecDepth 100000 in
theorem wi_X2_startFor : (Jvm.Cond.instanceMethod ({ cls := "ReportBlocks$OwnRecord", name := "startFor", desc := "(I)V" } : Jvm.MethodName)) ∈ GB := gb_t (List.mem_of_getElem? (i := 470) rfl) rfl
set_option maxRecDepth 100000 in
theorem wv_X2_startFor : (Jvm.Cond.selects "ReportBlocks$OwnRecord" ({ cls := "ReportBlocks$OwnRecord", name := "startFor", desc := "(I)V" } : Jvm.MethodName) ({ cls := "ReportBlocks$OwnRecord", name := "startFor", desc := "(I)V" } : Jvm.MethodName)) ∈ GB := gb_t (List.mem_of_getElem? (i := 471) rfl) rfl
set_option maxRecDepth 100000 in
theorem wc_X2_startFor : Cond.code yX2_startFor cX2_startFor 2 (Option.none : Option Jvm.ClassFile.FieldType) ∈ GB := gb_t (List.mem_of_getElem? (i := 472) rfl) rfl
set_option maxRecDepth 100000 in
theorem wl_X2_22 : (Jvm.Cond.methodLink "ReportBlocks$OwnRecord" (22 : Nat) ({ cls := "java/util/Arrays", name := "fill", desc := "([II)V" } : Jvm.MethodName)) ∈ GB := gb_t (List.mem_of_getElem? (i := 473) rfl) rfl
set_option maxRecDepth 100000 in
theorem wl_L_77 : (Jvm.Cond.methodLink "ReportBlocksLaw" (77 : Nat) ({ cls := "ReportBlocks", name := "set", desc := "(I)I" } : Jvm.MethodName)) ∈ GB := gb_t (List.mem_of_getElem? (i := 474) rfl) rfl
set_option maxRecDepth 100000 in
theorem wi_X7_set : (Jvm.Cond.instanceMethod ({ cls := "ReportBlocks", name := "set", desc := "(I)I" } : Jvm.MethodName)) ∈ GB := gb_t (List.mem_of_getElem? (i := 475) rfl) rfl
set_option maxRecDepth 100000 in
theorem wv_X7_set : (Jvm.Cond.selects "ReportBlocks" ({ cls := "ReportBlocks", name := "set", desc := "(I)I" } : Jvm.MethodName) ({ cls := "ReportBlocks", name := "set", desc := "(I)I" } : Jvm.MethodName)) ∈ GB := gb_t (List.mem_of_getElem? (i := 476) rfl) rfl
set_option maxRecDepth 100000 in
theorem wc_X7_set : Cond.code yX7_set cX7_set 4 (Option.some Jvm.ClassFile.FieldType.int) ∈ GB := gb_t (List.mem_of_getElem? (i := 477) rfl) rfl
set_option maxRecDepth 100000 in
theorem wl_X7_187 : (Jvm.Cond.methodLink "ReportBlocks" (187 : Nat) ({ cls := "ReportBlocks$Reader", name := "passItem", desc := "(I)V" } : Jvm.MethodName)) ∈ GB := gb_t (List.mem_of_getElem? (i := 478) rfl) rfl
set_option maxRecDepth 100000 in
theorem wl_X7_193 : (Jvm.Cond.methodLink "ReportBlocks" (193 : Nat) ({ cls := "ReportBlocks$OwnRecord", name := "putItem", desc := "(I[II)V" } : Jvm.MethodName)) ∈ GB := gb_t (List.mem_of_getElem? (i := 479) rfl) rfl
set_option maxRecDepth 100000 in
theorem wi_X2_putItem : (Jvm.Cond.instanceMethod ({ cls := "ReportBlocks$OwnRecord", name := "putItem", desc := "(I[II)V" } : Jvm.MethodName)) ∈ GB := gb_t (List.mem_of_getElem? (i := 480) rfl) rfl
set_option maxRecDepth 100000 in
theorem wv_X2_putItem : (Jvm.Cond.selects "ReportBlocks$OwnRecord" ({ cls := "ReportBlocks$OwnRecord", name := "putItem", desc := "(I[II)V" } : Jvm.MethodName) ({ cls := "ReportBlocks$OwnRecord", name := "putItem", desc := "(I[II)V" } : Jvm.MethodName)) ∈ GB := gb_t (List.mem_of_getElem? (i := 481) rfl) rfl
set_option maxRecDepth 100000 in
theorem wc_X2_putItem : Cond.code yX2_putItem cX2_putItem 4 (Option.none : Option Jvm.ClassFile.FieldType) ∈ GB := gb_t (List.mem_of_getElem? (i := 482) rfl) rfl
set_option maxRecDepth 100000 in
theorem wl_X2_28 : (Jvm.Cond.methodLink "ReportBlocks$OwnRecord" (28 : Nat) ({ cls := "ReportBlocks$OwnRecord", name := "rowOf", desc := "(I)I" } : Jvm.MethodName)) ∈ GB := gb_t (List.mem_of_getElem? (i := 483) rfl) rfl
set_option maxRecDepth 100000 in
theorem wt_X2_rowOf : (Jvm.Cond.static ({ cls := "ReportBlocks$OwnRecord", name := "rowOf", desc := "(I)I" } : Jvm.MethodName)) ∈ GB := gb_t (List.mem_of_getElem? (i := 484) rfl) rfl
set_option maxRecDepth 100000 in
theorem wc_X2_rowOf : Cond.code yX2_rowOf cX2_rowOf 1 (Option.some Jvm.ClassFile.FieldType.int) ∈ GB := gb_t (List.mem_of_getElem? (i := 485) rfl) rfl
set_option maxRecDepth 100000 in
theorem wl_X2_32 : (Jvm.Cond.methodLink "ReportBlocks$OwnRecord" (32 : Nat) ({ cls := "java/lang/System", name := "arraycopy", desc := "(Ljava/lang/Object;ILjava/lang/Object;II)V" } : Jvm.MethodName)) ∈ GB := gb_t (List.mem_of_getElem? (i := 486) rfl) rfl
set_option maxRecDepth 100000 in
theorem wl_L_81 : (Jvm.Cond.methodLink "ReportBlocksLaw" (81 : Nat) ({ cls := "ReportBlocks", name := "take", desc := "(I)I" } : Jvm.MethodName)) ∈ GB := gb_t (List.mem_of_getElem? (i := 487) rfl) rfl
set_option maxRecDepth 100000 in
theorem wi_X7_take : (Jvm.Cond.instanceMethod ({ cls := "ReportBlocks", name := "take", desc := "(I)I" } : Jvm.MethodName)) ∈ GB := gb_t (List.mem_of_getElem? (i := 488) rfl) rfl
set_option maxRecDepth 100000 in
theorem wv_X7_take : (Jvm.Cond.selects "ReportBlocks" ({ cls := "ReportBlocks", name := "take", desc := "(I)I" } : Jvm.MethodName) ({ cls := "ReportBlocks", name := "take", desc := "(I)I" } : Jvm.MethodName)) ∈ GB := gb_t (List.mem_of_getElem? (i := 489) rfl) rfl
set_option maxRecDepth 100000 in
theorem wc_X7_take : Cond.code yX7_take cX7_take 3 (Option.some Jvm.ClassFile.FieldType.int) ∈ GB := gb_t (List.mem_of_getElem? (i := 490) rfl) rfl
set_option maxRecDepth 100000 in
theorem wl_L_85 : (Jvm.Cond.methodLink "ReportBlocksLaw" (85 : Nat) ({ cls := "ReportBlocks", name := "write", desc := "()I" } : Jvm.MethodName)) ∈ GB := gb_t (List.mem_of_getElem? (i := 491) rfl) rfl
set_option maxRecDepth 100000 in
theorem wi_X7_write : (Jvm.Cond.instanceMethod ({ cls := "ReportBlocks", name := "write", desc := "()I" } : Jvm.MethodName)) ∈ GB := gb_t (List.mem_of_getElem? (i := 492) rfl) rfl
set_option maxRecDepth 100000 in
theorem wv_X7_write : (Jvm.Cond.selects "ReportBlocks" ({ cls := "ReportBlocks", name := "write", desc := "()I" } : Jvm.MethodName) ({ cls := "ReportBlocks", name := "write", desc := "()I" } : Jvm.MethodName)) ∈ GB := gb_t (List.mem_of_getElem? (i := 493) rfl) rfl
set_option maxRecDepth 100000 in
theorem wc_X7_write : Cond.code yX7_write cX7_write 6 (Option.some Jvm.ClassFile.FieldType.int) ∈ GB := gb_t (List.mem_of_getElem? (i := 494) rfl) rfl
set_option maxRecDepth 100000 in
theorem wl_X7_197 : (Jvm.Cond.methodLink "ReportBlocks" (197 : Nat) ({ cls := "ReportBlocks$OwnRecord", name := "lastPlace", desc := "()I" } : Jvm.MethodName)) ∈ GB := gb_t (List.mem_of_getElem? (i := 495) rfl) rfl
set_option maxRecDepth 100000 in
theorem wi_X2_lastPlace : (Jvm.Cond.instanceMethod ({ cls := "ReportBlocks$OwnRecord", name := "lastPlace", desc := "()I" } : Jvm.MethodName)) ∈ GB := gb_t (List.mem_of_getElem? (i := 496) rfl) rfl
set_option maxRecDepth 100000 in
theorem wv_X2_lastPlace : (Jvm.Cond.selects "ReportBlocks$OwnRecord" ({ cls := "ReportBlocks$OwnRecord", name := "lastPlace", desc := "()I" } : Jvm.MethodName) ({ cls := "ReportBlocks$OwnRecord", name := "lastPlace", desc := "()I" } : Jvm.MethodName)) ∈ GB := gb_t (List.mem_of_getElem? (i := 497) rfl) rfl
set_option maxRecDepth 100000 in
theorem wc_X2_lastPlace : Cond.code yX2_lastPlace cX2_lastPlace 2 (Option.some Jvm.ClassFile.FieldType.int) ∈ GB := gb_t (List.mem_of_getElem? (i := 498) rfl) rfl
set_option maxRecDepth 100000 in
theorem wl_X7_201 : (Jvm.Cond.methodLink "ReportBlocks" (201 : Nat) ({ cls := "ReportBlocks$OwnRecord", name := "itemBytes", desc := "()I" } : Jvm.MethodName)) ∈ GB := gb_t (List.mem_of_getElem? (i := 499) rfl) rfl
set_option maxRecDepth 100000 in
theorem wi_X2_itemBytes : (Jvm.Cond.instanceMethod ({ cls := "ReportBlocks$OwnRecord", name := "itemBytes", desc := "()I" } : Jvm.MethodName)) ∈ GB := gb_t (List.mem_of_getElem? (i := 500) rfl) rfl
set_option maxRecDepth 100000 in
theorem wv_X2_itemBytes : (Jvm.Cond.selects "ReportBlocks$OwnRecord" ({ cls := "ReportBlocks$OwnRecord", name := "itemBytes", desc := "()I" } : Jvm.MethodName) ({ cls := "ReportBlocks$OwnRecord", name := "itemBytes", desc := "()I" } : Jvm.MethodName)) ∈ GB := gb_t (List.mem_of_getElem? (i := 501) rfl) rfl
set_option maxRecDepth 100000 in
theorem wc_X2_itemBytes : Cond.code yX2_itemBytes cX2_itemBytes 3 (Option.some Jvm.ClassFile.FieldType.int) ∈ GB := gb_t (List.mem_of_getElem? (i := 502) rfl) rfl
set_option maxRecDepth 100000 in
theorem wl_X7_207 : (Jvm.Cond.methodLink "ReportBlocks" (207 : Nat) ({ cls := "ReportBlocks$Tape", name := "putHead", desc := "(II)V" } : Jvm.MethodName)) ∈ GB := gb_t (List.mem_of_getElem? (i := 503) rfl) rfl
set_option maxRecDepth 100000 in
theorem wi_X4_putHead : (Jvm.Cond.instanceMethod ({ cls := "ReportBlocks$Tape", name := "putHead", desc := "(II)V" } : Jvm.MethodName)) ∈ GB := gb_t (List.mem_of_getElem? (i := 504) rfl) rfl
set_option maxRecDepth 100000 in
theorem wv_X4_putHead : (Jvm.Cond.selects "ReportBlocks$Tape" ({ cls := "ReportBlocks$Tape", name := "putHead", desc := "(II)V" } : Jvm.MethodName) ({ cls := "ReportBlocks$Tape", name := "putHead", desc := "(II)V" } : Jvm.MethodName)) ∈ GB := gb_t (List.mem_of_getElem? (i := 505) rfl) rfl
set_option maxRecDepth 100000 in
theorem wc_X4_putHead : Cond.code yX4_putHead cX4_putHead 3 (Option.none : Option Jvm.ClassFile.FieldType) ∈ GB := gb_t (List.mem_of_getElem? (i := 506) rfl) rfl
set_option maxRecDepth 100000 in
theorem wl_X4_19 : (Jvm.Cond.methodLink "ReportBlocks$Tape" (19 : Nat) ({ cls := "ReportBlocks$Tape", name := "put", desc := "(I)V" } : Jvm.MethodName)) ∈ GB := gb_t (List.mem_of_getElem? (i := 507) rfl) rfl
set_option maxRecDepth 100000 in
theorem wl_X7_211 : (Jvm.Cond.methodLink "ReportBlocks" (211 : Nat) ({ cls := "ReportBlocks$OwnRecord", name := "bitsByte", desc := "(IZ)I" } : Jvm.MethodName)) ∈ GB := gb_t (List.mem_of_getElem? (i := 508) rfl) rfl
set_option maxRecDepth 100000 in
theorem wi_X2_bitsByte : (Jvm.Cond.instanceMethod ({ cls := "ReportBlocks$OwnRecord", name := "bitsByte", desc := "(IZ)I" } : Jvm.MethodName)) ∈ GB := gb_t (List.mem_of_getElem? (i := 509) rfl) rfl
set_option maxRecDepth 100000 in
theorem wv_X2_bitsByte : (Jvm.Cond.selects "ReportBlocks$OwnRecord" ({ cls := "ReportBlocks$OwnRecord", name := "bitsByte", desc := "(IZ)I" } : Jvm.MethodName) ({ cls := "ReportBlocks$OwnRecord", name := "bitsByte", desc := "(IZ)I" } : Jvm.MethodName)) ∈ GB := gb_t (List.mem_of_getElem? (i := 510) rfl) rfl
set_option maxRecDepth 100000 in
theorem wc_X2_bitsByte : Cond.code yX2_bitsByte cX2_bitsByte 6 (Option.some Jvm.ClassFile.FieldType.int) ∈ GB := gb_t (List.mem_of_getElem? (i := 511) rfl) rfl
set_option maxRecDepth 100000 in
theorem wl_X7_216 : (Jvm.Cond.methodLink "ReportBlocks" (216 : Nat) ({ cls := "ReportBlocks$OwnRecord", name := "rowOf", desc := "(I)I" } : Jvm.MethodName)) ∈ GB := gb_t (List.mem_of_getElem? (i := 512) rfl) rfl
set_option maxRecDepth 100000 in
theorem wl_X7_219 : (Jvm.Cond.methodLink "ReportBlocks" (219 : Nat) ({ cls := "ReportBlocks$Tape", name := "putAll", desc := "([III)V" } : Jvm.MethodName)) ∈ GB := gb_t (List.mem_of_getElem? (i := 513) rfl) rfl
set_option maxRecDepth 100000 in
theorem wi_X4_putAll : (Jvm.Cond.instanceMethod ({ cls := "ReportBlocks$Tape", name := "putAll", desc := "([III)V" } : Jvm.MethodName)) ∈ GB := gb_t (List.mem_of_getElem? (i := 514) rfl) rfl
set_option maxRecDepth 100000 in
theorem wv_X4_putAll : (Jvm.Cond.selects "ReportBlocks$Tape" ({ cls := "ReportBlocks$Tape", name := "putAll", desc := "([III)V" } : Jvm.MethodName) ({ cls := "ReportBlocks$Tape", name := "putAll", desc := "([III)V" } : Jvm.MethodName)) ∈ GB := gb_t (List.mem_of_getElem? (i := 515) rfl) rfl
set_option maxRecDepth 100000 in
theorem wc_X4_putAll : Cond.code yX4_putAll cX4_putAll 5 (Option.none : Option Jvm.ClassFile.FieldType) ∈ GB := gb_t (List.mem_of_getElem? (i := 516) rfl) rfl
set_option maxRecDepth 100000 in
theorem wl_L_89 : (Jvm.Cond.methodLink "ReportBlocksLaw" (89 : Nat) ({ cls := "ReportBlocks", name := "copy", desc := "(I)I" } : Jvm.MethodName)) ∈ GB := gb_t (List.mem_of_getElem? (i := 517) rfl) rfl
set_option maxRecDepth 100000 in
theorem wi_X7_copy : (Jvm.Cond.instanceMethod ({ cls := "ReportBlocks", name := "copy", desc := "(I)I" } : Jvm.MethodName)) ∈ GB := gb_t (List.mem_of_getElem? (i := 518) rfl) rfl
set_option maxRecDepth 100000 in
theorem wv_X7_copy : (Jvm.Cond.selects "ReportBlocks" ({ cls := "ReportBlocks", name := "copy", desc := "(I)I" } : Jvm.MethodName) ({ cls := "ReportBlocks", name := "copy", desc := "(I)I" } : Jvm.MethodName)) ∈ GB := gb_t (List.mem_of_getElem? (i := 519) rfl) rfl
set_option maxRecDepth 100000 in
theorem wc_X7_copy : Cond.code yX7_copy cX7_copy 6 (Option.some Jvm.ClassFile.FieldType.int) ∈ GB := gb_t (List.mem_of_getElem? (i := 520) rfl) rfl
set_option maxRecDepth 100000 in
theorem wl_X7_223 : (Jvm.Cond.methodLink "ReportBlocks" (223 : Nat) ({ cls := "ReportBlocks$Block", name := "bytesWithout", desc := "(I)I" } : Jvm.MethodName)) ∈ GB := gb_t (List.mem_of_getElem? (i := 521) rfl) rfl
set_option maxRecDepth 100000 in
theorem wi_X0_bytesWithout : (Jvm.Cond.instanceMethod ({ cls := "ReportBlocks$Block", name := "bytesWithout", desc := "(I)I" } : Jvm.MethodName)) ∈ GB := gb_t (List.mem_of_getElem? (i := 522) rfl) rfl
set_option maxRecDepth 100000 in
theorem wv_X0_bytesWithout : (Jvm.Cond.selects "ReportBlocks$Block" ({ cls := "ReportBlocks$Block", name := "bytesWithout", desc := "(I)I" } : Jvm.MethodName) ({ cls := "ReportBlocks$Block", name := "bytesWithout", desc := "(I)I" } : Jvm.MethodName)) ∈ GB := gb_t (List.mem_of_getElem? (i := 523) rfl) rfl
set_option maxRecDepth 100000 in
theorem wc_X0_bytesWithout : Cond.code yX0_bytesWithout cX0_bytesWithout 4 (Option.some Jvm.ClassFile.FieldType.int) ∈ GB := gb_t (List.mem_of_getElem? (i := 524) rfl) rfl
set_option maxRecDepth 100000 in
theorem wl_X0_53 : (Jvm.Cond.methodLink "ReportBlocks$Block" (53 : Nat) ({ cls := "ReportBlocks$Block", name := "bytesOf", desc := "(I)I" } : Jvm.MethodName)) ∈ GB := gb_t (List.mem_of_getElem? (i := 525) rfl) rfl
set_option maxRecDepth 100000 in
theorem wi_X0_bytesOf : (Jvm.Cond.instanceMethod ({ cls := "ReportBlocks$Block", name := "bytesOf", desc := "(I)I" } : Jvm.MethodName)) ∈ GB := gb_t (List.mem_of_getElem? (i := 526) rfl) rfl
set_option maxRecDepth 100000 in
theorem wv_X0_bytesOf : (Jvm.Cond.selects "ReportBlocks$Block" ({ cls := "ReportBlocks$Block", name := "bytesOf", desc := "(I)I" } : Jvm.MethodName) ({ cls := "ReportBlocks$Block", name := "bytesOf", desc := "(I)I" } : Jvm.MethodName)) ∈ GB := gb_t (List.mem_of_getElem? (i := 527) rfl) rfl
set_option maxRecDepth 100000 in
theorem wc_X0_bytesOf : Cond.code yX0_bytesOf cX0_bytesOf 3 (Option.some Jvm.ClassFile.FieldType.int) ∈ GB := gb_t (List.mem_of_getElem? (i := 528) rfl) rfl
set_option maxRecDepth 100000 in
theorem wl_X7_229 : (Jvm.Cond.methodLink "ReportBlocks" (229 : Nat) ({ cls := "ReportBlocks$Block", name := "bytesOf", desc := "(I)I" } : Jvm.MethodName)) ∈ GB := gb_t (List.mem_of_getElem? (i := 529) rfl) rfl
set_option maxRecDepth 100000 in
theorem wl_L_93 : (Jvm.Cond.methodLink "ReportBlocksLaw" (93 : Nat) ({ cls := "ReportBlocks", name := "tape", desc := "(I)I" } : Jvm.MethodName)) ∈ GB := gb_t (List.mem_of_getElem? (i := 530) rfl) rfl
set_option maxRecDepth 100000 in
theorem wi_X7_tape : (Jvm.Cond.instanceMethod ({ cls := "ReportBlocks", name := "tape", desc := "(I)I" } : Jvm.MethodName)) ∈ GB := gb_t (List.mem_of_getElem? (i := 531) rfl) rfl
set_option maxRecDepth 100000 in
theorem wv_X7_tape : (Jvm.Cond.selects "ReportBlocks" ({ cls := "ReportBlocks", name := "tape", desc := "(I)I" } : Jvm.MethodName) ({ cls := "ReportBlocks", name := "tape", desc := "(I)I" } : Jvm.MethodName)) ∈ GB := gb_t (List.mem_of_getElem? (i := 532) rfl) rfl
set_option maxRecDepth 100000 in
theorem wc_X7_tape : Cond.code yX7_tape cX7_tape 2 (Option.some Jvm.ClassFile.FieldType.int) ∈ GB := gb_t (List.mem_of_getElem? (i := 533) rfl) rfl
set_option maxRecDepth 100000 in
theorem wl_L_97 : (Jvm.Cond.methodLink "ReportBlocksLaw" (97 : Nat) ({ cls := "ReportBlocks", name := "report", desc := "(I)I" } : Jvm.MethodName)) ∈ GB := gb_t (List.mem_of_getElem? (i := 534) rfl) rfl
set_option maxRecDepth 100000 in
theorem wi_X7_report : (Jvm.Cond.instanceMethod ({ cls := "ReportBlocks", name := "report", desc := "(I)I" } : Jvm.MethodName)) ∈ GB := gb_t (List.mem_of_getElem? (i := 535) rfl) rfl
set_option maxRecDepth 100000 in
theorem wv_X7_report : (Jvm.Cond.selects "ReportBlocks" ({ cls := "ReportBlocks", name := "report", desc := "(I)I" } : Jvm.MethodName) ({ cls := "ReportBlocks", name := "report", desc := "(I)I" } : Jvm.MethodName)) ∈ GB := gb_t (List.mem_of_getElem? (i := 536) rfl) rfl
set_option maxRecDepth 100000 in
theorem wc_X7_report : Cond.code yX7_report cX7_report 9 (Option.some Jvm.ClassFile.FieldType.int) ∈ GB := gb_t (List.mem_of_getElem? (i := 537) rfl) rfl
set_option maxRecDepth 100000 in
theorem wl_X7_232 : (Jvm.Cond.methodLink "ReportBlocks" (232 : Nat) ({ cls := "ReportBlocks$Category", name := "tellsTrack", desc := "()Z" } : Jvm.MethodName)) ∈ GB := gb_t (List.mem_of_getElem? (i := 538) rfl) rfl
set_option maxRecDepth 100000 in
theorem wi_X1_tellsTrack : (Jvm.Cond.instanceMethod ({ cls := "ReportBlocks$Category", name := "tellsTrack", desc := "()Z" } : Jvm.MethodName)) ∈ GB := gb_t (List.mem_of_getElem? (i := 539) rfl) rfl
set_option maxRecDepth 100000 in
theorem wv_X1_tellsTrack : (Jvm.Cond.selects "ReportBlocks$Category" ({ cls := "ReportBlocks$Category", name := "tellsTrack", desc := "()Z" } : Jvm.MethodName) ({ cls := "ReportBlocks$Category", name := "tellsTrack", desc := "()Z" } : Jvm.MethodName)) ∈ GB := gb_t (List.mem_of_getElem? (i := 540) rfl) rfl
set_option maxRecDepth 100000 in
theorem wc_X1_tellsTrack : Cond.code yX1_tellsTrack cX1_tellsTrack 1 (Option.some Jvm.ClassFile.FieldType.boolean) ∈ GB := gb_t (List.mem_of_getElem? (i := 541) rfl) rfl
set_option maxRecDepth 100000 in
theorem wl_X1_37 : (Jvm.Cond.methodLink "ReportBlocks$Category" (37 : Nat) ({ cls := "ReportBlocks$Category", name := "isFixed", desc := "(II)Z" } : Jvm.MethodName)) ∈ GB := gb_t (List.mem_of_getElem? (i := 542) rfl) rfl
set_option maxRecDepth 100000 in
theorem wl_X7_236 : (Jvm.Cond.methodLink "ReportBlocks" (236 : Nat) ({ cls := "ReportBlocks$TrackRow", name := "update", desc := "(III)I" } : Jvm.MethodName)) ∈ GB := gb_t (List.mem_of_getElem? (i := 543) rfl) rfl
set_option maxRecDepth 100000 in
theorem wi_X6_update : (Jvm.Cond.instanceMethod ({ cls := "ReportBlocks$TrackRow", name := "update", desc := "(III)I" } : Jvm.MethodName)) ∈ GB := gb_t (List.mem_of_getElem? (i := 544) rfl) rfl
set_option maxRecDepth 100000 in
theorem wv_X6_update : (Jvm.Cond.selects "ReportBlocks$TrackRow" ({ cls := "ReportBlocks$TrackRow", name := "update", desc := "(III)I" } : Jvm.MethodName) ({ cls := "ReportBlocks$TrackRow", name := "update", desc := "(III)I" } : Jvm.MethodName)) ∈ GB := gb_t (List.mem_of_getElem? (i := 545) rfl) rfl
set_option maxRecDepth 100000 in
theorem wc_X6_update : Cond.code yX6_update cX6_update 5 (Option.some Jvm.ClassFile.FieldType.int) ∈ GB := gb_t (List.mem_of_getElem? (i := 546) rfl) rfl
set_option maxRecDepth 100000 in
theorem wl_X6_25 : (Jvm.Cond.methodLink "ReportBlocks$TrackRow" (25 : Nat) ({ cls := "ReportBlocks$Track", name := "update", desc := "(II)V" } : Jvm.MethodName)) ∈ GB := gb_t (List.mem_of_getElem? (i := 547) rfl) rfl
set_option maxRecDepth 100000 in
theorem wi_X5_update : (Jvm.Cond.instanceMethod ({ cls := "ReportBlocks$Track", name := "update", desc := "(II)V" } : Jvm.MethodName)) ∈ GB := gb_t (List.mem_of_getElem? (i := 548) rfl) rfl
set_option maxRecDepth 100000 in
theorem wv_X5_update : (Jvm.Cond.selects "ReportBlocks$Track" ({ cls := "ReportBlocks$Track", name := "update", desc := "(II)V" } : Jvm.MethodName) ({ cls := "ReportBlocks$Track", name := "update", desc := "(II)V" } : Jvm.MethodName)) ∈ GB := gb_t (List.mem_of_getElem? (i := 549) rfl) rfl
set_option maxRecDepth 100000 in
theorem wc_X5_update : Cond.code yX5_update cX5_update 4 (Option.none : Option Jvm.ClassFile.FieldType) ∈ GB := gb_t (List.mem_of_getElem? (i := 550) rfl) rfl
set_option maxRecDepth 100000 in
theorem wl_X5_31 : (Jvm.Cond.methodLink "ReportBlocks$Track" (31 : Nat) ({ cls := "java/lang/Math", name := "max", desc := "(II)I" } : Jvm.MethodName)) ∈ GB := gb_t (List.mem_of_getElem? (i := 551) rfl) rfl
set_option maxRecDepth 100000 in
theorem wt_J9_max_7cf53 : (Jvm.Cond.static ({ cls := "java/lang/Math", name := "max", desc := "(II)I" } : Jvm.MethodName)) ∈ GB := gb_t (List.mem_of_getElem? (i := 552) rfl) rfl
set_option maxRecDepth 100000 in
theorem wc_J9_max_7cf53 : Cond.code yJ9_max_7cf53 cJ9_max_7cf53 2 (Option.some Jvm.ClassFile.FieldType.int) ∈ GB := gb_t (List.mem_of_getElem? (i := 553) rfl) rfl
set_option maxRecDepth 100000 in
theorem wl_X6_32 : (Jvm.Cond.methodLink "ReportBlocks$TrackRow" (32 : Nat) ({ cls := "ReportBlocks$Track", name := "come", desc := "(III)V" } : Jvm.MethodName)) ∈ GB := gb_t (List.mem_of_getElem? (i := 554) rfl) rfl
set_option maxRecDepth 100000 in
theorem wi_X5_come : (Jvm.Cond.instanceMethod ({ cls := "ReportBlocks$Track", name := "come", desc := "(III)V" } : Jvm.MethodName)) ∈ GB := gb_t (List.mem_of_getElem? (i := 555) rfl) rfl
set_option maxRecDepth 100000 in
theorem wv_X5_come : (Jvm.Cond.selects "ReportBlocks$Track" ({ cls := "ReportBlocks$Track", name := "come", desc := "(III)V" } : Jvm.MethodName) ({ cls := "ReportBlocks$Track", name := "come", desc := "(III)V" } : Jvm.MethodName)) ∈ GB := gb_t (List.mem_of_getElem? (i := 556) rfl) rfl
set_option maxRecDepth 100000 in
theorem wc_X5_come : Cond.code yX5_come cX5_come 4 (Option.none : Option Jvm.ClassFile.FieldType) ∈ GB := gb_t (List.mem_of_getElem? (i := 557) rfl) rfl
set_option maxRecDepth 100000 in
theorem wl_X5_24 : (Jvm.Cond.methodLink "ReportBlocks$Track" (24 : Nat) ({ cls := "ReportBlocks$Track", name := "update", desc := "(II)V" } : Jvm.MethodName)) ∈ GB := gb_t (List.mem_of_getElem? (i := 558) rfl) rfl
set_option maxRecDepth 100000 in
theorem wl_L_101 : (Jvm.Cond.methodLink "ReportBlocksLaw" (101 : Nat) ({ cls := "ReportBlocks", name := "tick", desc := "(I)I" } : Jvm.MethodName)) ∈ GB := gb_t (List.mem_of_getElem? (i := 559) rfl) rfl
set_option maxRecDepth 100000 in
theorem wi_X7_tick : (Jvm.Cond.instanceMethod ({ cls := "ReportBlocks", name := "tick", desc := "(I)I" } : Jvm.MethodName)) ∈ GB := gb_t (List.mem_of_getElem? (i := 560) rfl) rfl
set_option maxRecDepth 100000 in
theorem wv_X7_tick : (Jvm.Cond.selects "ReportBlocks" ({ cls := "ReportBlocks", name := "tick", desc := "(I)I" } : Jvm.MethodName) ({ cls := "ReportBlocks", name := "tick", desc := "(I)I" } : Jvm.MethodName)) ∈ GB := gb_t (List.mem_of_getElem? (i := 561) rfl) rfl
set_option maxRecDepth 100000 in
theorem wc_X7_tick : Cond.code yX7_tick cX7_tick 4 (Option.some Jvm.ClassFile.FieldType.int) ∈ GB := gb_t (List.mem_of_getElem? (i := 562) rfl) rfl
set_option maxRecDepth 100000 in
theorem wl_X7_243 : (Jvm.Cond.methodLink "ReportBlocks" (243 : Nat) ({ cls := "ReportBlocks$TrackRow", name := "passTick", desc := "()V" } : Jvm.MethodName)) ∈ GB := gb_t (List.mem_of_getElem? (i := 563) rfl) rfl
set_option maxRecDepth 100000 in
theorem wi_X6_passTick : (Jvm.Cond.instanceMethod ({ cls := "ReportBlocks$TrackRow", name := "passTick", desc := "()V" } : Jvm.MethodName)) ∈ GB := gb_t (List.mem_of_getElem? (i := 564) rfl) rfl
set_option maxRecDepth 100000 in
theorem wv_X6_passTick : (Jvm.Cond.selects "ReportBlocks$TrackRow" ({ cls := "ReportBlocks$TrackRow", name := "passTick", desc := "()V" } : Jvm.MethodName) ({ cls := "ReportBlocks$TrackRow", name := "passTick", desc := "()V" } : Jvm.MethodName)) ∈ GB := gb_t (List.mem_of_getElem? (i := 565) rfl) rfl
set_option maxRecDepth 100000 in
theorem wc_X6_passTick : Cond.code yX6_passTick cX6_passTick 4 (Option.none : Option Jvm.ClassFile.FieldType) ∈ GB := gb_t (List.mem_of_getElem? (i := 566) rfl) rfl
set_option maxRecDepth 100000 in
theorem wl_X6_39 : (Jvm.Cond.methodLink "ReportBlocks$TrackRow" (39 : Nat) ({ cls := "ReportBlocks$Track", name := "passTick", desc := "()V" } : Jvm.MethodName)) ∈ GB := gb_t (List.mem_of_getElem? (i := 567) rfl) rfl
set_option maxRecDepth 100000 in
theorem wi_X5_passTick : (Jvm.Cond.instanceMethod ({ cls := "ReportBlocks$Track", name := "passTick", desc := "()V" } : Jvm.MethodName)) ∈ GB := gb_t (List.mem_of_getElem? (i := 568) rfl) rfl
set_option maxRecDepth 100000 in
theorem wv_X5_passTick : (Jvm.Cond.selects "ReportBlocks$Track" ({ cls := "ReportBlocks$Track", name := "passTick", desc := "()V" } : Jvm.MethodName) ({ cls := "ReportBlocks$Track", name := "passTick", desc := "()V" } : Jvm.MethodName)) ∈ GB := gb_t (List.mem_of_getElem? (i := 569) rfl) rfl
set_option maxRecDepth 100000 in
theorem wc_X5_passTick : Cond.code yX5_passTick cX5_passTick 1 (Option.none : Option Jvm.ClassFile.FieldType) ∈ GB := gb_t (List.mem_of_getElem? (i := 570) rfl) rfl
set_option maxRecDepth 100000 in
theorem wl_L_105 : (Jvm.Cond.methodLink "ReportBlocksLaw" (105 : Nat) ({ cls := "ReportBlocks", name := "track", desc := "(II)I" } : Jvm.MethodName)) ∈ GB := gb_t (List.mem_of_getElem? (i := 571) rfl) rfl
set_option maxRecDepth 100000 in
theorem wi_X7_track : (Jvm.Cond.instanceMethod ({ cls := "ReportBlocks", name := "track", desc := "(II)I" } : Jvm.MethodName)) ∈ GB := gb_t (List.mem_of_getElem? (i := 572) rfl) rfl
set_option maxRecDepth 100000 in
theorem wv_X7_track : (Jvm.Cond.selects "ReportBlocks" ({ cls := "ReportBlocks", name := "track", desc := "(II)I" } : Jvm.MethodName) ({ cls := "ReportBlocks", name := "track", desc := "(II)I" } : Jvm.MethodName)) ∈ GB := gb_t (List.mem_of_getElem? (i := 573) rfl) rfl
set_option maxRecDepth 100000 in
theorem wc_X7_track : Cond.code yX7_track cX7_track 4 (Option.some Jvm.ClassFile.FieldType.int) ∈ GB := gb_t (List.mem_of_getElem? (i := 574) rfl) rfl
set_option maxRecDepth 100000 in
theorem wl_L_110 : (Jvm.Cond.methodLink "ReportBlocksLaw" (110 : Nat) ({ cls := "ReportBlocks", name := "count", desc := "(I)I" } : Jvm.MethodName)) ∈ GB := gb_t (List.mem_of_getElem? (i := 575) rfl) rfl
set_option maxRecDepth 100000 in
theorem wi_X7_count : (Jvm.Cond.instanceMethod ({ cls := "ReportBlocks", name := "count", desc := "(I)I" } : Jvm.MethodName)) ∈ GB := gb_t (List.mem_of_getElem? (i := 576) rfl) rfl
set_option maxRecDepth 100000 in
theorem wv_X7_count : (Jvm.Cond.selects "ReportBlocks" ({ cls := "ReportBlocks", name := "count", desc := "(I)I" } : Jvm.MethodName) ({ cls := "ReportBlocks", name := "count", desc := "(I)I" } : Jvm.MethodName)) ∈ GB := gb_t (List.mem_of_getElem? (i := 577) rfl) rfl
set_option maxRecDepth 100000 in
theorem wc_X7_count : Cond.code yX7_count cX7_count 2 (Option.some Jvm.ClassFile.FieldType.int) ∈ GB := gb_t (List.mem_of_getElem? (i := 578) rfl) rfl
set_option maxRecDepth 100000 in
theorem wk_L_10 : (Jvm.Cond.classLink "ReportBlocksLaw" (10 : Nat) "ReportBlocksModel") ∈ GB := gb_t (List.mem_of_getElem? (i := 579) rfl) rfl
set_option maxRecDepth 100000 in
theorem wb_X8 : (Jvm.Cond.instantiable "ReportBlocksModel" (46 : Nat)) ∈ GB := gb_t (List.mem_of_getElem? (i := 580) rfl) rfl
set_option maxRecDepth 100000 in
theorem wl_L_12 : (Jvm.Cond.methodLink "ReportBlocksLaw" (12 : Nat) ({ cls := "ReportBlocksModel", name := "<init>", desc := "()V" } : Jvm.MethodName)) ∈ GB := gb_t (List.mem_of_getElem? (i := 581) rfl) rfl
set_option maxRecDepth 100000 in
theorem wi_X8_init : (Jvm.Cond.instanceMethod ({ cls := "ReportBlocksModel", name := "<init>", desc := "()V" } : Jvm.MethodName)) ∈ GB := gb_t (List.mem_of_getElem? (i := 582) rfl) rfl
set_option maxRecDepth 100000 in
theorem wc_X8_init : Cond.code yX8_init cX8_init 1 (Option.none : Option Jvm.ClassFile.FieldType) ∈ GB := gb_t (List.mem_of_getElem? (i := 583) rfl) rfl
set_option maxRecDepth 100000 in
theorem wl_X8_1 : (Jvm.Cond.methodLink "ReportBlocksModel" (1 : Nat) ({ cls := "java/lang/Object", name := "<init>", desc := "()V" } : Jvm.MethodName)) ∈ GB := gb_t (List.mem_of_getElem? (i := 584) rfl) rfl
set_option maxRecDepth 100000 in
theorem wf_X8_102 : (Jvm.Cond.fieldLink "ReportBlocksModel" (102 : Nat) "ReportBlocksModel" "categories" "I") ∈ GB := gb_t (List.mem_of_getElem? (i := 585) rfl) rfl
set_option maxRecDepth 100000 in
theorem wf_X8_7 : (Jvm.Cond.fieldLink "ReportBlocksModel" (7 : Nat) "ReportBlocksModel" "numberOf" "[I") ∈ GB := gb_t (List.mem_of_getElem? (i := 586) rfl) rfl
set_option maxRecDepth 100000 in
theorem wf_X8_13 : (Jvm.Cond.fieldLink "ReportBlocksModel" (13 : Nat) "ReportBlocksModel" "kind" "[I") ∈ GB := gb_t (List.mem_of_getElem? (i := 587) rfl) rfl
set_option maxRecDepth 100000 in
theorem wf_X8_16 : (Jvm.Cond.fieldLink "ReportBlocksModel" (16 : Nat) "ReportBlocksModel" "bytes" "[I") ∈ GB := gb_t (List.mem_of_getElem? (i := 588) rfl) rfl
set_option maxRecDepth 100000 in
theorem wf_X8_19 : (Jvm.Cond.fieldLink "ReportBlocksModel" (19 : Nat) "ReportBlocksModel" "parts" "[I") ∈ GB := gb_t (List.mem_of_getElem? (i := 589) rfl) rfl
set_option maxRecDepth 100000 in
theorem wf_X8_22 : (Jvm.Cond.fieldLink "ReportBlocksModel" (22 : Nat) "ReportBlocksModel" "trackBy" "[I") ∈ GB := gb_t (List.mem_of_getElem? (i := 590) rfl) rfl
set_option maxRecDepth 100000 in
theorem wf_X8_25 : (Jvm.Cond.fieldLink "ReportBlocksModel" (25 : Nat) "ReportBlocksModel" "whereBy" "[I") ∈ GB := gb_t (List.mem_of_getElem? (i := 591) rfl) rfl
set_option maxRecDepth 100000 in
theorem wf_X8_28 : (Jvm.Cond.fieldLink "ReportBlocksModel" (28 : Nat) "ReportBlocksModel" "tape" "[I") ∈ GB := gb_t (List.mem_of_getElem? (i := 592) rfl) rfl
set_option maxRecDepth 100000 in
theorem wf_X8_133 : (Jvm.Cond.fieldLink "ReportBlocksModel" (133 : Nat) "ReportBlocksModel" "size" "I") ∈ GB := gb_t (List.mem_of_getElem? (i := 593) rfl) rfl
set_option maxRecDepth 100000 in
theorem wf_X8_142 : (Jvm.Cond.fieldLink "ReportBlocksModel" (142 : Nat) "ReportBlocksModel" "at" "I") ∈ GB := gb_t (List.mem_of_getElem? (i := 594) rfl) rfl
set_option maxRecDepth 100000 in
theorem wf_X8_145 : (Jvm.Cond.fieldLink "ReportBlocksModel" (145 : Nat) "ReportBlocksModel" "end" "I") ∈ GB := gb_t (List.mem_of_getElem? (i := 595) rfl) rfl
set_option maxRecDepth 100000 in
theorem wf_X8_136 : (Jvm.Cond.fieldLink "ReportBlocksModel" (136 : Nat) "ReportBlocksModel" "fault" "I") ∈ GB := gb_t (List.mem_of_getElem? (i := 596) rfl) rfl
set_option maxRecDepth 100000 in
theorem wf_X8_139 : (Jvm.Cond.fieldLink "ReportBlocksModel" (139 : Nat) "ReportBlocksModel" "faultAt" "I") ∈ GB := gb_t (List.mem_of_getElem? (i := 597) rfl) rfl
set_option maxRecDepth 100000 in
theorem wf_X8_190 : (Jvm.Cond.fieldLink "ReportBlocksModel" (190 : Nat) "ReportBlocksModel" "toldFault" "I") ∈ GB := gb_t (List.mem_of_getElem? (i := 598) rfl) rfl
set_option maxRecDepth 100000 in
theorem wf_X8_117 : (Jvm.Cond.fieldLink "ReportBlocksModel" (117 : Nat) "ReportBlocksModel" "records" "I") ∈ GB := gb_t (List.mem_of_getElem? (i := 599) rfl) rfl
set_option maxRecDepth 100000 in
theorem wf_X8_99 : (Jvm.Cond.fieldLink "ReportBlocksModel" (99 : Nat) "ReportBlocksModel" "recordsOf" "I") ∈ GB := gb_t (List.mem_of_getElem? (i := 600) rfl) rfl
set_option maxRecDepth 100000 in
theorem wf_X8_31 : (Jvm.Cond.fieldLink "ReportBlocksModel" (31 : Nat) "ReportBlocksModel" "block" "[I") ∈ GB := gb_t (List.mem_of_getElem? (i := 601) rfl) rfl
set_option maxRecDepth 100000 in
theorem wf_X8_34 : (Jvm.Cond.fieldLink "ReportBlocksModel" (34 : Nat) "ReportBlocksModel" "begins" "[I") ∈ GB := gb_t (List.mem_of_getElem? (i := 602) rfl) rfl
set_option maxRecDepth 100000 in
theorem wf_X8_37 : (Jvm.Cond.fieldLink "ReportBlocksModel" (37 : Nat) "ReportBlocksModel" "itemAt" "[I") ∈ GB := gb_t (List.mem_of_getElem? (i := 603) rfl) rfl
set_option maxRecDepth 100000 in
theorem wf_X8_40 : (Jvm.Cond.fieldLink "ReportBlocksModel" (40 : Nat) "ReportBlocksModel" "itemSize" "[I") ∈ GB := gb_t (List.mem_of_getElem? (i := 604) rfl) rfl
set_option maxRecDepth 100000 in
theorem wf_X8_178 : (Jvm.Cond.fieldLink "ReportBlocksModel" (178 : Nat) "ReportBlocksModel" "draftRecords" "I") ∈ GB := gb_t (List.mem_of_getElem? (i := 605) rfl) rfl
set_option maxRecDepth 100000 in
theorem wf_X8_43 : (Jvm.Cond.fieldLink "ReportBlocksModel" (43 : Nat) "ReportBlocksModel" "draftBegins" "[I") ∈ GB := gb_t (List.mem_of_getElem? (i := 606) rfl) rfl
set_option maxRecDepth 100000 in
theorem wf_X8_46 : (Jvm.Cond.fieldLink "ReportBlocksModel" (46 : Nat) "ReportBlocksModel" "draftAt" "[I") ∈ GB := gb_t (List.mem_of_getElem? (i := 607) rfl) rfl
set_option maxRecDepth 100000 in
theorem wf_X8_49 : (Jvm.Cond.fieldLink "ReportBlocksModel" (49 : Nat) "ReportBlocksModel" "draftSize" "[I") ∈ GB := gb_t (List.mem_of_getElem? (i := 608) rfl) rfl
set_option maxRecDepth 100000 in
theorem wf_X8_52 : (Jvm.Cond.fieldLink "ReportBlocksModel" (52 : Nat) "ReportBlocksModel" "hasBit" "[Z") ∈ GB := gb_t (List.mem_of_getElem? (i := 609) rfl) rfl
set_option maxRecDepth 100000 in
theorem wf_X8_56 : (Jvm.Cond.fieldLink "ReportBlocksModel" (56 : Nat) "ReportBlocksModel" "own" "I") ∈ GB := gb_t (List.mem_of_getElem? (i := 610) rfl) rfl
set_option maxRecDepth 100000 in
theorem wf_X8_60 : (Jvm.Cond.fieldLink "ReportBlocksModel" (60 : Nat) "ReportBlocksModel" "ownSize" "[I") ∈ GB := gb_t (List.mem_of_getElem? (i := 611) rfl) rfl
set_option maxRecDepth 100000 in
theorem wf_X8_63 : (Jvm.Cond.fieldLink "ReportBlocksModel" (63 : Nat) "ReportBlocksModel" "ownByte" "[I") ∈ GB := gb_t (List.mem_of_getElem? (i := 612) rfl) rfl
set_option maxRecDepth 100000 in
theorem wf_X8_216 : (Jvm.Cond.fieldLink "ReportBlocksModel" (216 : Nat) "ReportBlocksModel" "tracks" "I") ∈ GB := gb_t (List.mem_of_getElem? (i := 613) rfl) rfl
set_option maxRecDepth 100000 in
theorem wf_X8_66 : (Jvm.Cond.fieldLink "ReportBlocksModel" (66 : Nat) "ReportBlocksModel" "track" "[I") ∈ GB := gb_t (List.mem_of_getElem? (i := 614) rfl) rfl
set_option maxRecDepth 100000 in
theorem wf_X8_69 : (Jvm.Cond.fieldLink "ReportBlocksModel" (69 : Nat) "ReportBlocksModel" "x" "[I") ∈ GB := gb_t (List.mem_of_getElem? (i := 615) rfl) rfl
set_option maxRecDepth 100000 in
theorem wf_X8_72 : (Jvm.Cond.fieldLink "ReportBlocksModel" (72 : Nat) "ReportBlocksModel" "y" "[I") ∈ GB := gb_t (List.mem_of_getElem? (i := 616) rfl) rfl
set_option maxRecDepth 100000 in
theorem wf_X8_75 : (Jvm.Cond.fieldLink "ReportBlocksModel" (75 : Nat) "ReportBlocksModel" "speedX" "[I") ∈ GB := gb_t (List.mem_of_getElem? (i := 617) rfl) rfl
set_option maxRecDepth 100000 in
theorem wf_X8_78 : (Jvm.Cond.fieldLink "ReportBlocksModel" (78 : Nat) "ReportBlocksModel" "speedY" "[I") ∈ GB := gb_t (List.mem_of_getElem? (i := 618) rfl) rfl
set_option maxRecDepth 100000 in
theorem wf_X8_81 : (Jvm.Cond.fieldLink "ReportBlocksModel" (81 : Nat) "ReportBlocksModel" "age" "[I") ∈ GB := gb_t (List.mem_of_getElem? (i := 619) rfl) rfl
set_option maxRecDepth 100000 in
theorem wf_X8_84 : (Jvm.Cond.fieldLink "ReportBlocksModel" (84 : Nat) "ReportBlocksModel" "hits" "[I") ∈ GB := gb_t (List.mem_of_getElem? (i := 620) rfl) rfl
set_option maxRecDepth 100000 in
theorem wf_X8_87 : (Jvm.Cond.fieldLink "ReportBlocksModel" (87 : Nat) "ReportBlocksModel" "lastX" "[I") ∈ GB := gb_t (List.mem_of_getElem? (i := 621) rfl) rfl
set_option maxRecDepth 100000 in
theorem wf_X8_90 : (Jvm.Cond.fieldLink "ReportBlocksModel" (90 : Nat) "ReportBlocksModel" "lastY" "[I") ∈ GB := gb_t (List.mem_of_getElem? (i := 622) rfl) rfl
set_option maxRecDepth 100000 in
theorem wf_X8_93 : (Jvm.Cond.fieldLink "ReportBlocksModel" (93 : Nat) "ReportBlocksModel" "lastTick" "[I") ∈ GB := gb_t (List.mem_of_getElem? (i := 623) rfl) rfl
set_option maxRecDepth 100000 in
theorem wf_X8_226 : (Jvm.Cond.fieldLink "ReportBlocksModel" (226 : Nat) "ReportBlocksModel" "lost" "I") ∈ GB := gb_t (List.mem_of_getElem? (i := 624) rfl) rfl
set_option maxRecDepth 100000 in
theorem wf_X8_235 : (Jvm.Cond.fieldLink "ReportBlocksModel" (235 : Nat) "ReportBlocksModel" "dropped" "I") ∈ GB := gb_t (List.mem_of_getElem? (i := 625) rfl) rfl
set_option maxRecDepth 100000 in
theorem wf_X8_229 : (Jvm.Cond.fieldLink "ReportBlocksModel" (229 : Nat) "ReportBlocksModel" "ticks" "I") ∈ GB := gb_t (List.mem_of_getElem? (i := 626) rfl) rfl
set_option maxRecDepth 100000 in
theorem wf_X8_193 : (Jvm.Cond.fieldLink "ReportBlocksModel" (193 : Nat) "ReportBlocksModel" "blocks" "I") ∈ GB := gb_t (List.mem_of_getElem? (i := 627) rfl) rfl
set_option maxRecDepth 100000 in
theorem wf_X8_156 : (Jvm.Cond.fieldLink "ReportBlocksModel" (156 : Nat) "ReportBlocksModel" "bitsAt" "I") ∈ GB := gb_t (List.mem_of_getElem? (i := 628) rfl) rfl
set_option maxRecDepth 100000 in
theorem wf_X8_159 : (Jvm.Cond.fieldLink "ReportBlocksModel" (159 : Nat) "ReportBlocksModel" "bitBytes" "I") ∈ GB := gb_t (List.mem_of_getElem? (i := 629) rfl) rfl
set_option maxRecDepth 100000 in
theorem wf_X8_96 : (Jvm.Cond.fieldLink "ReportBlocksModel" (96 : Nat) "ReportBlocksModel" "hasPlace" "[Z") ∈ GB := gb_t (List.mem_of_getElem? (i := 630) rfl) rfl
set_option maxRecDepth 100000 in
theorem wy_X8_categories : (Jvm.Cond.lays "ReportBlocksModel" "ReportBlocksModel" "categories" "I") ∈ GB := gb_t (List.mem_of_getElem? (i := 631) rfl) rfl
set_option maxRecDepth 100000 in
theorem wy_X8_numberOf : (Jvm.Cond.laysFinal "ReportBlocksModel" "ReportBlocksModel" "numberOf" "[I") ∈ GB := gb_t (List.mem_of_getElem? (i := 633) rfl) rfl
set_option maxRecDepth 100000 in
theorem wy_X8_kind : (Jvm.Cond.laysFinal "ReportBlocksModel" "ReportBlocksModel" "kind" "[I") ∈ GB := gb_t (List.mem_of_getElem? (i := 635) rfl) rfl
set_option maxRecDepth 100000 in
theorem wy_X8_bytes : (Jvm.Cond.laysFinal "ReportBlocksModel" "ReportBlocksModel" "bytes" "[I") ∈ GB := gb_t (List.mem_of_getElem? (i := 637) rfl) rfl
set_option maxRecDepth 100000 in
theorem wy_X8_parts : (Jvm.Cond.laysFinal "ReportBlocksModel" "ReportBlocksModel" "parts" "[I") ∈ GB := gb_t (List.mem_of_getElem? (i := 639) rfl) rfl
set_option maxRecDepth 100000 in
theorem wy_X8_trackBy : (Jvm.Cond.laysFinal "ReportBlocksModel" "ReportBlocksModel" "trackBy" "[I") ∈ GB := gb_t (List.mem_of_getElem? (i := 641) rfl) rfl
set_option maxRecDepth 100000 in
theorem wy_X8_whereBy : (Jvm.Cond.laysFinal "ReportBlocksModel" "ReportBlocksModel" "whereBy" "[I") ∈ GB := gb_t (List.mem_of_getElem? (i := 643) rfl) rfl
set_option maxRecDepth 100000 in
theorem wy_X8_tape : (Jvm.Cond.laysFinal "ReportBlocksModel" "ReportBlocksModel" "tape" "[I") ∈ GB := gb_t (List.mem_of_getElem? (i := 645) rfl) rfl
set_option maxRecDepth 100000 in
theorem wy_X8_size : (Jvm.Cond.lays "ReportBlocksModel" "ReportBlocksModel" "size" "I") ∈ GB := gb_t (List.mem_of_getElem? (i := 647) rfl) rfl
set_option maxRecDepth 100000 in
theorem wy_X8_at : (Jvm.Cond.lays "ReportBlocksModel" "ReportBlocksModel" "at" "I") ∈ GB := gb_t (List.mem_of_getElem? (i := 649) rfl) rfl
set_option maxRecDepth 100000 in
theorem wy_X8_end : (Jvm.Cond.lays "ReportBlocksModel" "ReportBlocksModel" "end" "I") ∈ GB := gb_t (List.mem_of_getElem? (i := 651) rfl) rfl
set_option maxRecDepth 100000 in
theorem wy_X8_fault : (Jvm.Cond.lays "ReportBlocksModel" "ReportBlocksModel" "fault" "I") ∈ GB := gb_t (List.mem_of_getElem? (i := 653) rfl) rfl
set_option maxRecDepth 100000 in
theorem wy_X8_faultAt : (Jvm.Cond.lays "ReportBlocksModel" "ReportBlocksModel" "faultAt" "I") ∈ GB := gb_t (List.mem_of_getElem? (i := 655) rfl) rfl
set_option maxRecDepth 100000 in
theorem wy_X8_toldFault : (Jvm.Cond.lays "ReportBlocksModel" "ReportBlocksModel" "toldFault" "I") ∈ GB := gb_t (List.mem_of_getElem? (i := 657) rfl) rfl
set_option maxRecDepth 100000 in
theorem wy_X8_records : (Jvm.Cond.lays "ReportBlocksModel" "ReportBlocksModel" "records" "I") ∈ GB := gb_t (List.mem_of_getElem? (i := 659) rfl) rfl
set_option maxRecDepth 100000 in
theorem wy_X8_recordsOf : (Jvm.Cond.lays "ReportBlocksModel" "ReportBlocksModel" "recordsOf" "I") ∈ GB := gb_t (List.mem_of_getElem? (i := 661) rfl) rfl
set_option maxRecDepth 100000 in
theorem wy_X8_block : (Jvm.Cond.laysFinal "ReportBlocksModel" "ReportBlocksModel" "block" "[I") ∈ GB := gb_t (List.mem_of_getElem? (i := 663) rfl) rfl
set_option maxRecDepth 100000 in
theorem wy_X8_begins : (Jvm.Cond.laysFinal "ReportBlocksModel" "ReportBlocksModel" "begins" "[I") ∈ GB := gb_t (List.mem_of_getElem? (i := 665) rfl) rfl
set_option maxRecDepth 100000 in
theorem wy_X8_itemAt : (Jvm.Cond.laysFinal "ReportBlocksModel" "ReportBlocksModel" "itemAt" "[I") ∈ GB := gb_t (List.mem_of_getElem? (i := 667) rfl) rfl
set_option maxRecDepth 100000 in
theorem wy_X8_itemSize : (Jvm.Cond.laysFinal "ReportBlocksModel" "ReportBlocksModel" "itemSize" "[I") ∈ GB := gb_t (List.mem_of_getElem? (i := 669) rfl) rfl
set_option maxRecDepth 100000 in
theorem wy_X8_draftRecords : (Jvm.Cond.lays "ReportBlocksModel" "ReportBlocksModel" "draftRecords" "I") ∈ GB := gb_t (List.mem_of_getElem? (i := 671) rfl) rfl
set_option maxRecDepth 100000 in
theorem wy_X8_draftBegins : (Jvm.Cond.laysFinal "ReportBlocksModel" "ReportBlocksModel" "draftBegins" "[I") ∈ GB := gb_t (List.mem_of_getElem? (i := 673) rfl) rfl
set_option maxRecDepth 100000 in
theorem wy_X8_draftAt : (Jvm.Cond.laysFinal "ReportBlocksModel" "ReportBlocksModel" "draftAt" "[I") ∈ GB := gb_t (List.mem_of_getElem? (i := 675) rfl) rfl
set_option maxRecDepth 100000 in
theorem wy_X8_draftSize : (Jvm.Cond.laysFinal "ReportBlocksModel" "ReportBlocksModel" "draftSize" "[I") ∈ GB := gb_t (List.mem_of_getElem? (i := 677) rfl) rfl
set_option maxRecDepth 100000 in
theorem wy_X8_hasBit : (Jvm.Cond.laysFinal "ReportBlocksModel" "ReportBlocksModel" "hasBit" "[Z") ∈ GB := gb_t (List.mem_of_getElem? (i := 679) rfl) rfl
set_option maxRecDepth 100000 in
theorem wy_X8_own : (Jvm.Cond.lays "ReportBlocksModel" "ReportBlocksModel" "own" "I") ∈ GB := gb_t (List.mem_of_getElem? (i := 681) rfl) rfl
set_option maxRecDepth 100000 in
theorem wy_X8_ownSize : (Jvm.Cond.laysFinal "ReportBlocksModel" "ReportBlocksModel" "ownSize" "[I") ∈ GB := gb_t (List.mem_of_getElem? (i := 683) rfl) rfl
set_option maxRecDepth 100000 in
theorem wy_X8_ownByte : (Jvm.Cond.laysFinal "ReportBlocksModel" "ReportBlocksModel" "ownByte" "[I") ∈ GB := gb_t (List.mem_of_getElem? (i := 685) rfl) rfl
set_option maxRecDepth 100000 in
theorem wy_X8_tracks : (Jvm.Cond.lays "ReportBlocksModel" "ReportBlocksModel" "tracks" "I") ∈ GB := gb_t (List.mem_of_getElem? (i := 687) rfl) rfl
set_option maxRecDepth 100000 in
theorem wy_X8_track : (Jvm.Cond.laysFinal "ReportBlocksModel" "ReportBlocksModel" "track" "[I") ∈ GB := gb_t (List.mem_of_getElem? (i := 689) rfl) rfl
set_option maxRecDepth 100000 in
theorem wy_X8_x : (Jvm.Cond.laysFinal "ReportBlocksModel" "ReportBlocksModel" "x" "[I") ∈ GB := gb_t (List.mem_of_getElem? (i := 691) rfl) rfl
set_option maxRecDepth 100000 in
theorem wy_X8_y : (Jvm.Cond.laysFinal "ReportBlocksModel" "ReportBlocksModel" "y" "[I") ∈ GB := gb_t (List.mem_of_getElem? (i := 693) rfl) rfl
set_option maxRecDepth 100000 in
theorem wy_X8_speedX : (Jvm.Cond.laysFinal "ReportBlocksModel" "ReportBlocksModel" "speedX" "[I") ∈ GB := gb_t (List.mem_of_getElem? (i := 695) rfl) rfl
set_option maxRecDepth 100000 in
theorem wy_X8_speedY : (Jvm.Cond.laysFinal "ReportBlocksModel" "ReportBlocksModel" "speedY" "[I") ∈ GB := gb_t (List.mem_of_getElem? (i := 697) rfl) rfl
set_option maxRecDepth 100000 in
theorem wy_X8_age : (Jvm.Cond.laysFinal "ReportBlocksModel" "ReportBlocksModel" "age" "[I") ∈ GB := gb_t (List.mem_of_getElem? (i := 699) rfl) rfl
set_option maxRecDepth 100000 in
theorem wy_X8_hits : (Jvm.Cond.laysFinal "ReportBlocksModel" "ReportBlocksModel" "hits" "[I") ∈ GB := gb_t (List.mem_of_getElem? (i := 701) rfl) rfl
set_option maxRecDepth 100000 in
theorem wy_X8_lastX : (Jvm.Cond.laysFinal "ReportBlocksModel" "ReportBlocksModel" "lastX" "[I") ∈ GB := gb_t (List.mem_of_getElem? (i := 703) rfl) rfl
set_option maxRecDepth 100000 in
theorem wy_X8_lastY : (Jvm.Cond.laysFinal "ReportBlocksModel" "ReportBlocksModel" "lastY" "[I") ∈ GB := gb_t (List.mem_of_getElem? (i := 705) rfl) rfl
set_option maxRecDepth 100000 in
theorem wy_X8_lastTick : (Jvm.Cond.laysFinal "ReportBlocksModel" "ReportBlocksModel" "lastTick" "[I") ∈ GB := gb_t (List.mem_of_getElem? (i := 707) rfl) rfl
set_option maxRecDepth 100000 in
theorem wy_X8_lost : (Jvm.Cond.lays "ReportBlocksModel" "ReportBlocksModel" "lost" "I") ∈ GB := gb_t (List.mem_of_getElem? (i := 709) rfl) rfl
set_option maxRecDepth 100000 in
theorem wy_X8_dropped : (Jvm.Cond.lays "ReportBlocksModel" "ReportBlocksModel" "dropped" "I") ∈ GB := gb_t (List.mem_of_getElem? (i := 711) rfl) rfl
set_option maxRecDepth 100000 in
theorem wy_X8_ticks : (Jvm.Cond.lays "ReportBlocksModel" "ReportBlocksModel" "ticks" "I") ∈ GB := gb_t (List.mem_of_getElem? (i := 713) rfl) rfl
set_option maxRecDepth 100000 in
theorem wy_X8_blocks : (Jvm.Cond.lays "ReportBlocksModel" "ReportBlocksModel" "blocks" "I") ∈ GB := gb_t (List.mem_of_getElem? (i := 715) rfl) rfl
set_option maxRecDepth 100000 in
theorem wy_X8_bitsAt : (Jvm.Cond.lays "ReportBlocksModel" "ReportBlocksModel" "bitsAt" "I") ∈ GB := gb_t (List.mem_of_getElem? (i := 717) rfl) rfl
set_option maxRecDepth 100000 in
theorem wy_X8_bitBytes : (Jvm.Cond.lays "ReportBlocksModel" "ReportBlocksModel" "bitBytes" "I") ∈ GB := gb_t (List.mem_of_getElem? (i := 719) rfl) rfl
set_option maxRecDepth 100000 in
theorem wy_X8_hasPlace : (Jvm.Cond.laysFinal "ReportBlocksModel" "ReportBlocksModel" "hasPlace" "[Z") ∈ GB := gb_t (List.mem_of_getElem? (i := 721) rfl) rfl
set_option maxRecDepth 100000 in
theorem wr_boolean : (Jvm.Cond.arrayClass Jvm.ClassFile.FieldType.boolean) ∈ GB := gb_t (List.mem_of_getElem? (i := 724) rfl) rfl
set_option maxRecDepth 100000 in
theorem wl_L_17 : (Jvm.Cond.methodLink "ReportBlocksLaw" (17 : Nat) ({ cls := "ReportBlocksModel", name := "category", desc := "(I)I" } : Jvm.MethodName)) ∈ GB := gb_t (List.mem_of_getElem? (i := 725) rfl) rfl
set_option maxRecDepth 100000 in
theorem wi_X8_category : (Jvm.Cond.instanceMethod ({ cls := "ReportBlocksModel", name := "category", desc := "(I)I" } : Jvm.MethodName)) ∈ GB := gb_t (List.mem_of_getElem? (i := 726) rfl) rfl
set_option maxRecDepth 100000 in
theorem wv_X8_category : (Jvm.Cond.selects "ReportBlocksModel" ({ cls := "ReportBlocksModel", name := "category", desc := "(I)I" } : Jvm.MethodName) ({ cls := "ReportBlocksModel", name := "category", desc := "(I)I" } : Jvm.MethodName)) ∈ GB := gb_t (List.mem_of_getElem? (i := 727) rfl) rfl
set_option maxRecDepth 100000 in
theorem wc_X8_category : Cond.code yX8_category cX8_category 3 (Option.some Jvm.ClassFile.FieldType.int) ∈ GB := gb_t (List.mem_of_getElem? (i := 728) rfl) rfl
set_option maxRecDepth 100000 in
theorem wl_X8_105 : (Jvm.Cond.methodLink "ReportBlocksModel" (105 : Nat) ({ cls := "ReportBlocksModel", name := "in", desc := "(III)Z" } : Jvm.MethodName)) ∈ GB := gb_t (List.mem_of_getElem? (i := 729) rfl) rfl
set_option maxRecDepth 100000 in
theorem wt_X8_in : (Jvm.Cond.static ({ cls := "ReportBlocksModel", name := "in", desc := "(III)Z" } : Jvm.MethodName)) ∈ GB := gb_t (List.mem_of_getElem? (i := 730) rfl) rfl
set_option maxRecDepth 100000 in
theorem wc_X8_in : Cond.code yX8_in cX8_in 3 (Option.some Jvm.ClassFile.FieldType.boolean) ∈ GB := gb_t (List.mem_of_getElem? (i := 731) rfl) rfl
set_option maxRecDepth 100000 in
theorem wl_X8_109 : (Jvm.Cond.methodLink "ReportBlocksModel" (109 : Nat) ({ cls := "ReportBlocksModel", name := "find", desc := "(I)I" } : Jvm.MethodName)) ∈ GB := gb_t (List.mem_of_getElem? (i := 732) rfl) rfl
set_option maxRecDepth 100000 in
theorem wi_X8_find : (Jvm.Cond.instanceMethod ({ cls := "ReportBlocksModel", name := "find", desc := "(I)I" } : Jvm.MethodName)) ∈ GB := gb_t (List.mem_of_getElem? (i := 734) rfl) rfl
set_option maxRecDepth 100000 in
theorem wc_X8_find : Cond.code yX8_find cX8_find 3 (Option.some Jvm.ClassFile.FieldType.int) ∈ GB := gb_t (List.mem_of_getElem? (i := 735) rfl) rfl
set_option maxRecDepth 100000 in
theorem wl_X8_113 : (Jvm.Cond.methodLink "ReportBlocksModel" (113 : Nat) ({ cls := "ReportBlocksModel", name := "becomes", desc := "(IIII)V" } : Jvm.MethodName)) ∈ GB := gb_t (List.mem_of_getElem? (i := 736) rfl) rfl
set_option maxRecDepth 100000 in
theorem wi_X8_becomes : (Jvm.Cond.instanceMethod ({ cls := "ReportBlocksModel", name := "becomes", desc := "(IIII)V" } : Jvm.MethodName)) ∈ GB := gb_t (List.mem_of_getElem? (i := 738) rfl) rfl
set_option maxRecDepth 100000 in
theorem wc_X8_becomes : Cond.code yX8_becomes cX8_becomes 6 (Option.none : Option Jvm.ClassFile.FieldType) ∈ GB := gb_t (List.mem_of_getElem? (i := 739) rfl) rfl
set_option maxRecDepth 100000 in
theorem wl_L_22 : (Jvm.Cond.methodLink "ReportBlocksLaw" (22 : Nat) ({ cls := "ReportBlocksModel", name := "item", desc := "(IIII)I" } : Jvm.MethodName)) ∈ GB := gb_t (List.mem_of_getElem? (i := 740) rfl) rfl
set_option maxRecDepth 100000 in
theorem wi_X8_item : (Jvm.Cond.instanceMethod ({ cls := "ReportBlocksModel", name := "item", desc := "(IIII)I" } : Jvm.MethodName)) ∈ GB := gb_t (List.mem_of_getElem? (i := 741) rfl) rfl
set_option maxRecDepth 100000 in
theorem wv_X8_item : (Jvm.Cond.selects "ReportBlocksModel" ({ cls := "ReportBlocksModel", name := "item", desc := "(IIII)I" } : Jvm.MethodName) ({ cls := "ReportBlocksModel", name := "item", desc := "(IIII)I" } : Jvm.MethodName)) ∈ GB := gb_t (List.mem_of_getElem? (i := 742) rfl) rfl
set_option maxRecDepth 100000 in
theorem wc_X8_item : Cond.code yX8_item cX8_item 7 (Option.some Jvm.ClassFile.FieldType.int) ∈ GB := gb_t (List.mem_of_getElem? (i := 743) rfl) rfl
set_option maxRecDepth 100000 in
theorem wl_X8_120 : (Jvm.Cond.methodLink "ReportBlocksModel" (120 : Nat) ({ cls := "ReportBlocksModel", name := "isCategory", desc := "(I)Z" } : Jvm.MethodName)) ∈ GB := gb_t (List.mem_of_getElem? (i := 744) rfl) rfl
set_option maxRecDepth 100000 in
theorem wi_X8_isCategory : (Jvm.Cond.instanceMethod ({ cls := "ReportBlocksModel", name := "isCategory", desc := "(I)Z" } : Jvm.MethodName)) ∈ GB := gb_t (List.mem_of_getElem? (i := 746) rfl) rfl
set_option maxRecDepth 100000 in
theorem wc_X8_isCategory : Cond.code yX8_isCategory cX8_isCategory 2 (Option.some Jvm.ClassFile.FieldType.boolean) ∈ GB := gb_t (List.mem_of_getElem? (i := 747) rfl) rfl
set_option maxRecDepth 100000 in
theorem wl_X8_124 : (Jvm.Cond.methodLink "ReportBlocksModel" (124 : Nat) ({ cls := "ReportBlocksModel", name := "isPlace", desc := "(I)Z" } : Jvm.MethodName)) ∈ GB := gb_t (List.mem_of_getElem? (i := 748) rfl) rfl
set_option maxRecDepth 100000 in
theorem wt_X8_isPlace : (Jvm.Cond.static ({ cls := "ReportBlocksModel", name := "isPlace", desc := "(I)Z" } : Jvm.MethodName)) ∈ GB := gb_t (List.mem_of_getElem? (i := 749) rfl) rfl
set_option maxRecDepth 100000 in
theorem wc_X8_isPlace : Cond.code yX8_isPlace cX8_isPlace 1 (Option.some Jvm.ClassFile.FieldType.boolean) ∈ GB := gb_t (List.mem_of_getElem? (i := 750) rfl) rfl
set_option maxRecDepth 100000 in
theorem wl_X8_127 : (Jvm.Cond.methodLink "ReportBlocksModel" (127 : Nat) ({ cls := "ReportBlocksModel", name := "isInUse", desc := "(I)Z" } : Jvm.MethodName)) ∈ GB := gb_t (List.mem_of_getElem? (i := 751) rfl) rfl
set_option maxRecDepth 100000 in
theorem wi_X8_isInUse : (Jvm.Cond.instanceMethod ({ cls := "ReportBlocksModel", name := "isInUse", desc := "(I)Z" } : Jvm.MethodName)) ∈ GB := gb_t (List.mem_of_getElem? (i := 753) rfl) rfl
set_option maxRecDepth 100000 in
theorem wc_X8_isInUse : Cond.code yX8_isInUse cX8_isInUse 2 (Option.some Jvm.ClassFile.FieldType.boolean) ∈ GB := gb_t (List.mem_of_getElem? (i := 754) rfl) rfl
set_option maxRecDepth 100000 in
theorem wl_L_26 : (Jvm.Cond.methodLink "ReportBlocksLaw" (26 : Nat) ({ cls := "ReportBlocksModel", name := "part", desc := "(IIII)I" } : Jvm.MethodName)) ∈ GB := gb_t (List.mem_of_getElem? (i := 755) rfl) rfl
set_option maxRecDepth 100000 in
theorem wi_X8_part : (Jvm.Cond.instanceMethod ({ cls := "ReportBlocksModel", name := "part", desc := "(IIII)I" } : Jvm.MethodName)) ∈ GB := gb_t (List.mem_of_getElem? (i := 756) rfl) rfl
set_option maxRecDepth 100000 in
theorem wv_X8_part : (Jvm.Cond.selects "ReportBlocksModel" ({ cls := "ReportBlocksModel", name := "part", desc := "(IIII)I" } : Jvm.MethodName) ({ cls := "ReportBlocksModel", name := "part", desc := "(IIII)I" } : Jvm.MethodName)) ∈ GB := gb_t (List.mem_of_getElem? (i := 757) rfl) rfl
set_option maxRecDepth 100000 in
theorem wc_X8_part : Cond.code yX8_part cX8_part 6 (Option.some Jvm.ClassFile.FieldType.int) ∈ GB := gb_t (List.mem_of_getElem? (i := 758) rfl) rfl
set_option maxRecDepth 100000 in
theorem wl_L_31 : (Jvm.Cond.methodLink "ReportBlocksLaw" (31 : Nat) ({ cls := "ReportBlocksModel", name := "tells", desc := "(III)I" } : Jvm.MethodName)) ∈ GB := gb_t (List.mem_of_getElem? (i := 759) rfl) rfl
set_option maxRecDepth 100000 in
theorem wi_X8_tells : (Jvm.Cond.instanceMethod ({ cls := "ReportBlocksModel", name := "tells", desc := "(III)I" } : Jvm.MethodName)) ∈ GB := gb_t (List.mem_of_getElem? (i := 760) rfl) rfl
set_option maxRecDepth 100000 in
theorem wv_X8_tells : (Jvm.Cond.selects "ReportBlocksModel" ({ cls := "ReportBlocksModel", name := "tells", desc := "(III)I" } : Jvm.MethodName) ({ cls := "ReportBlocksModel", name := "tells", desc := "(III)I" } : Jvm.MethodName)) ∈ GB := gb_t (List.mem_of_getElem? (i := 761) rfl) rfl
set_option maxRecDepth 100000 in
theorem wc_X8_tells : Cond.code yX8_tells cX8_tells 4 (Option.some Jvm.ClassFile.FieldType.int) ∈ GB := gb_t (List.mem_of_getElem? (i := 762) rfl) rfl
set_option maxRecDepth 100000 in
theorem wl_X8_130 : (Jvm.Cond.methodLink "ReportBlocksModel" (130 : Nat) ({ cls := "ReportBlocksModel", name := "isFixed", desc := "(III)Z" } : Jvm.MethodName)) ∈ GB := gb_t (List.mem_of_getElem? (i := 763) rfl) rfl
set_option maxRecDepth 100000 in
theorem wi_X8_isFixed : (Jvm.Cond.instanceMethod ({ cls := "ReportBlocksModel", name := "isFixed", desc := "(III)Z" } : Jvm.MethodName)) ∈ GB := gb_t (List.mem_of_getElem? (i := 765) rfl) rfl
set_option maxRecDepth 100000 in
theorem wc_X8_isFixed : Cond.code yX8_isFixed cX8_isFixed 4 (Option.some Jvm.ClassFile.FieldType.boolean) ∈ GB := gb_t (List.mem_of_getElem? (i := 766) rfl) rfl
set_option maxRecDepth 100000 in
theorem wl_L_35 : (Jvm.Cond.methodLink "ReportBlocksLaw" (35 : Nat) ({ cls := "ReportBlocksModel", name := "table", desc := "(III)I" } : Jvm.MethodName)) ∈ GB := gb_t (List.mem_of_getElem? (i := 767) rfl) rfl
set_option maxRecDepth 100000 in
theorem wi_X8_table : (Jvm.Cond.instanceMethod ({ cls := "ReportBlocksModel", name := "table", desc := "(III)I" } : Jvm.MethodName)) ∈ GB := gb_t (List.mem_of_getElem? (i := 768) rfl) rfl
set_option maxRecDepth 100000 in
theorem wv_X8_table : (Jvm.Cond.selects "ReportBlocksModel" ({ cls := "ReportBlocksModel", name := "table", desc := "(III)I" } : Jvm.MethodName) ({ cls := "ReportBlocksModel", name := "table", desc := "(III)I" } : Jvm.MethodName)) ∈ GB := gb_t (List.mem_of_getElem? (i := 769) rfl) rfl
set_option maxRecDepth 100000 in
theorem wc_X8_table : Cond.code yX8_table cX8_table 5 (Option.some Jvm.ClassFile.FieldType.int) ∈ GB := gb_t (List.mem_of_getElem? (i := 770) rfl) rfl
set_option maxRecDepth 100000 in
theorem wl_L_42 : (Jvm.Cond.methodLink "ReportBlocksLaw" (42 : Nat) ({ cls := "ReportBlocksModel", name := "feed", desc := "(JI)I" } : Jvm.MethodName)) ∈ GB := gb_t (List.mem_of_getElem? (i := 771) rfl) rfl
set_option maxRecDepth 100000 in
theorem wi_X8_feed : (Jvm.Cond.instanceMethod ({ cls := "ReportBlocksModel", name := "feed", desc := "(JI)I" } : Jvm.MethodName)) ∈ GB := gb_t (List.mem_of_getElem? (i := 772) rfl) rfl
set_option maxRecDepth 100000 in
theorem wv_X8_feed : (Jvm.Cond.selects "ReportBlocksModel" ({ cls := "ReportBlocksModel", name := "feed", desc := "(JI)I" } : Jvm.MethodName) ({ cls := "ReportBlocksModel", name := "feed", desc := "(JI)I" } : Jvm.MethodName)) ∈ GB := gb_t (List.mem_of_getElem? (i := 773) rfl) rfl
set_option maxRecDepth 100000 in
theorem wc_X8_feed : Cond.code yX8_feed cX8_feed 5 (Option.some Jvm.ClassFile.FieldType.int) ∈ GB := gb_t (List.mem_of_getElem? (i := 774) rfl) rfl
set_option maxRecDepth 100000 in
theorem wl_L_47 : (Jvm.Cond.methodLink "ReportBlocksLaw" (47 : Nat) ({ cls := "ReportBlocksModel", name := "tear", desc := "()I" } : Jvm.MethodName)) ∈ GB := gb_t (List.mem_of_getElem? (i := 775) rfl) rfl
set_option maxRecDepth 100000 in
theorem wi_X8_tear : (Jvm.Cond.instanceMethod ({ cls := "ReportBlocksModel", name := "tear", desc := "()I" } : Jvm.MethodName)) ∈ GB := gb_t (List.mem_of_getElem? (i := 776) rfl) rfl
set_option maxRecDepth 100000 in
theorem wv_X8_tear : (Jvm.Cond.selects "ReportBlocksModel" ({ cls := "ReportBlocksModel", name := "tear", desc := "()I" } : Jvm.MethodName) ({ cls := "ReportBlocksModel", name := "tear", desc := "()I" } : Jvm.MethodName)) ∈ GB := gb_t (List.mem_of_getElem? (i := 777) rfl) rfl
set_option maxRecDepth 100000 in
theorem wc_X8_tear : Cond.code yX8_tear cX8_tear 2 (Option.some Jvm.ClassFile.FieldType.int) ∈ GB := gb_t (List.mem_of_getElem? (i := 778) rfl) rfl
set_option maxRecDepth 100000 in
theorem wl_L_96 : (Jvm.Cond.methodLink "ReportBlocksLaw" (96 : Nat) ({ cls := "ReportBlocksModel", name := "tape", desc := "(I)I" } : Jvm.MethodName)) ∈ GB := gb_t (List.mem_of_getElem? (i := 779) rfl) rfl
set_option maxRecDepth 100000 in
theorem wi_X8_tape : (Jvm.Cond.instanceMethod ({ cls := "ReportBlocksModel", name := "tape", desc := "(I)I" } : Jvm.MethodName)) ∈ GB := gb_t (List.mem_of_getElem? (i := 780) rfl) rfl
set_option maxRecDepth 100000 in
theorem wv_X8_tape : (Jvm.Cond.selects "ReportBlocksModel" ({ cls := "ReportBlocksModel", name := "tape", desc := "(I)I" } : Jvm.MethodName) ({ cls := "ReportBlocksModel", name := "tape", desc := "(I)I" } : Jvm.MethodName)) ∈ GB := gb_t (List.mem_of_getElem? (i := 781) rfl) rfl
set_option maxRecDepth 100000 in
theorem wc_X8_tape : Cond.code yX8_tape cX8_tape 2 (Option.some Jvm.ClassFile.FieldType.int) ∈ GB := gb_t (List.mem_of_getElem? (i := 782) rfl) rfl
set_option maxRecDepth 100000 in
theorem wl_L_51 : (Jvm.Cond.methodLink "ReportBlocksLaw" (51 : Nat) ({ cls := "ReportBlocksModel", name := "read", desc := "()I" } : Jvm.MethodName)) ∈ GB := gb_t (List.mem_of_getElem? (i := 783) rfl) rfl
set_option maxRecDepth 100000 in
theorem wi_X8_read : (Jvm.Cond.instanceMethod ({ cls := "ReportBlocksModel", name := "read", desc := "()I" } : Jvm.MethodName)) ∈ GB := gb_t (List.mem_of_getElem? (i := 784) rfl) rfl
set_option maxRecDepth 100000 in
theorem wv_X8_read : (Jvm.Cond.selects "ReportBlocksModel" ({ cls := "ReportBlocksModel", name := "read", desc := "()I" } : Jvm.MethodName) ({ cls := "ReportBlocksModel", name := "read", desc := "()I" } : Jvm.MethodName)) ∈ GB := gb_t (List.mem_of_getElem? (i := 785) rfl) rfl
set_option maxRecDepth 100000 in
theorem wc_X8_read : Cond.code yX8_read cX8_read 3 (Option.some Jvm.ClassFile.FieldType.int) ∈ GB := gb_t (List.mem_of_getElem? (i := 786) rfl) rfl
set_option maxRecDepth 100000 in
theorem wl_X8_187 : (Jvm.Cond.methodLink "ReportBlocksModel" (187 : Nat) ({ cls := "ReportBlocksModel", name := "readBlock", desc := "()I" } : Jvm.MethodName)) ∈ GB := gb_t (List.mem_of_getElem? (i := 787) rfl) rfl
set_option maxRecDepth 100000 in
theorem wi_X8_readBlock : (Jvm.Cond.instanceMethod ({ cls := "ReportBlocksModel", name := "readBlock", desc := "()I" } : Jvm.MethodName)) ∈ GB := gb_t (List.mem_of_getElem? (i := 789) rfl) rfl
set_option maxRecDepth 100000 in
theorem wc_X8_readBlock : Cond.code yX8_readBlock cX8_readBlock 3 (Option.some Jvm.ClassFile.FieldType.int) ∈ GB := gb_t (List.mem_of_getElem? (i := 790) rfl) rfl
set_option maxRecDepth 100000 in
theorem wl_X8_148 : (Jvm.Cond.methodLink "ReportBlocksModel" (148 : Nat) ({ cls := "ReportBlocksModel", name := "fails", desc := "(II)V" } : Jvm.MethodName)) ∈ GB := gb_t (List.mem_of_getElem? (i := 791) rfl) rfl
set_option maxRecDepth 100000 in
theorem wi_X8_fails : (Jvm.Cond.instanceMethod ({ cls := "ReportBlocksModel", name := "fails", desc := "(II)V" } : Jvm.MethodName)) ∈ GB := gb_t (List.mem_of_getElem? (i := 793) rfl) rfl
set_option maxRecDepth 100000 in
theorem wc_X8_fails : Cond.code yX8_fails cX8_fails 3 (Option.none : Option Jvm.ClassFile.FieldType) ∈ GB := gb_t (List.mem_of_getElem? (i := 794) rfl) rfl
set_option maxRecDepth 100000 in
theorem wl_X8_184 : (Jvm.Cond.methodLink "ReportBlocksModel" (184 : Nat) ({ cls := "ReportBlocksModel", name := "readRecord", desc := "(I)V" } : Jvm.MethodName)) ∈ GB := gb_t (List.mem_of_getElem? (i := 795) rfl) rfl
set_option maxRecDepth 100000 in
theorem wi_X8_readRecord : (Jvm.Cond.instanceMethod ({ cls := "ReportBlocksModel", name := "readRecord", desc := "(I)V" } : Jvm.MethodName)) ∈ GB := gb_t (List.mem_of_getElem? (i := 797) rfl) rfl
set_option maxRecDepth 100000 in
theorem wc_X8_readRecord : Cond.code yX8_readRecord cX8_readRecord 6 (Option.none : Option Jvm.ClassFile.FieldType) ∈ GB := gb_t (List.mem_of_getElem? (i := 798) rfl) rfl
set_option maxRecDepth 100000 in
theorem wl_X8_169 : (Jvm.Cond.methodLink "ReportBlocksModel" (169 : Nat) ({ cls := "ReportBlocksModel", name := "readBits", desc := "(I)V" } : Jvm.MethodName)) ∈ GB := gb_t (List.mem_of_getElem? (i := 799) rfl) rfl
set_option maxRecDepth 100000 in
theorem wi_X8_readBits : (Jvm.Cond.instanceMethod ({ cls := "ReportBlocksModel", name := "readBits", desc := "(I)V" } : Jvm.MethodName)) ∈ GB := gb_t (List.mem_of_getElem? (i := 801) rfl) rfl
set_option maxRecDepth 100000 in
theorem wc_X8_readBits : Cond.code yX8_readBits cX8_readBits 6 (Option.none : Option Jvm.ClassFile.FieldType) ∈ GB := gb_t (List.mem_of_getElem? (i := 802) rfl) rfl
set_option maxRecDepth 100000 in
theorem wl_X8_162 : (Jvm.Cond.methodLink "ReportBlocksModel" (162 : Nat) ({ cls := "ReportBlocksModel", name := "takes", desc := "()I" } : Jvm.MethodName)) ∈ GB := gb_t (List.mem_of_getElem? (i := 803) rfl) rfl
set_option maxRecDepth 100000 in
theorem wi_X8_takes : (Jvm.Cond.instanceMethod ({ cls := "ReportBlocksModel", name := "takes", desc := "()I" } : Jvm.MethodName)) ∈ GB := gb_t (List.mem_of_getElem? (i := 805) rfl) rfl
set_option maxRecDepth 100000 in
theorem wc_X8_takes : Cond.code yX8_takes cX8_takes 1 (Option.some Jvm.ClassFile.FieldType.int) ∈ GB := gb_t (List.mem_of_getElem? (i := 806) rfl) rfl
set_option maxRecDepth 100000 in
theorem wl_X8_152 : (Jvm.Cond.methodLink "ReportBlocksModel" (152 : Nat) ({ cls := "ReportBlocksModel", name := "needs", desc := "(I)V" } : Jvm.MethodName)) ∈ GB := gb_t (List.mem_of_getElem? (i := 807) rfl) rfl
set_option maxRecDepth 100000 in
theorem wi_X8_needs : (Jvm.Cond.instanceMethod ({ cls := "ReportBlocksModel", name := "needs", desc := "(I)V" } : Jvm.MethodName)) ∈ GB := gb_t (List.mem_of_getElem? (i := 809) rfl) rfl
set_option maxRecDepth 100000 in
theorem wc_X8_needs : Cond.code yX8_needs cX8_needs 2 (Option.none : Option Jvm.ClassFile.FieldType) ∈ GB := gb_t (List.mem_of_getElem? (i := 810) rfl) rfl
set_option maxRecDepth 100000 in
theorem wl_X8_166 : (Jvm.Cond.methodLink "ReportBlocksModel" (166 : Nat) ({ cls := "ReportBlocksModel", name := "isEmptyByte", desc := "(I)Z" } : Jvm.MethodName)) ∈ GB := gb_t (List.mem_of_getElem? (i := 811) rfl) rfl
set_option maxRecDepth 100000 in
theorem wi_X8_isEmptyByte : (Jvm.Cond.instanceMethod ({ cls := "ReportBlocksModel", name := "isEmptyByte", desc := "(I)Z" } : Jvm.MethodName)) ∈ GB := gb_t (List.mem_of_getElem? (i := 813) rfl) rfl
set_option maxRecDepth 100000 in
theorem wc_X8_isEmptyByte : Cond.code yX8_isEmptyByte cX8_isEmptyByte 2 (Option.some Jvm.ClassFile.FieldType.boolean) ∈ GB := gb_t (List.mem_of_getElem? (i := 814) rfl) rfl
set_option maxRecDepth 100000 in
theorem wl_X8_181 : (Jvm.Cond.methodLink "ReportBlocksModel" (181 : Nat) ({ cls := "ReportBlocksModel", name := "readItem", desc := "(II)V" } : Jvm.MethodName)) ∈ GB := gb_t (List.mem_of_getElem? (i := 815) rfl) rfl
set_option maxRecDepth 100000 in
theorem wi_X8_readItem : (Jvm.Cond.instanceMethod ({ cls := "ReportBlocksModel", name := "readItem", desc := "(II)V" } : Jvm.MethodName)) ∈ GB := gb_t (List.mem_of_getElem? (i := 817) rfl) rfl
set_option maxRecDepth 100000 in
theorem wc_X8_readItem : Cond.code yX8_readItem cX8_readItem 5 (Option.none : Option Jvm.ClassFile.FieldType) ∈ GB := gb_t (List.mem_of_getElem? (i := 818) rfl) rfl
set_option maxRecDepth 100000 in
theorem wl_X8_172 : (Jvm.Cond.methodLink "ReportBlocksModel" (172 : Nat) ({ cls := "ReportBlocksModel", name := "readGoing", desc := "()V" } : Jvm.MethodName)) ∈ GB := gb_t (List.mem_of_getElem? (i := 819) rfl) rfl
set_option maxRecDepth 100000 in
theorem wi_X8_readGoing : (Jvm.Cond.instanceMethod ({ cls := "ReportBlocksModel", name := "readGoing", desc := "()V" } : Jvm.MethodName)) ∈ GB := gb_t (List.mem_of_getElem? (i := 821) rfl) rfl
set_option maxRecDepth 100000 in
theorem wc_X8_readGoing : Cond.code yX8_readGoing cX8_readGoing 3 (Option.none : Option Jvm.ClassFile.FieldType) ∈ GB := gb_t (List.mem_of_getElem? (i := 822) rfl) rfl
set_option maxRecDepth 100000 in
theorem wl_X8_175 : (Jvm.Cond.methodLink "ReportBlocksModel" (175 : Nat) ({ cls := "ReportBlocksModel", name := "readMade", desc := "(II)V" } : Jvm.MethodName)) ∈ GB := gb_t (List.mem_of_getElem? (i := 823) rfl) rfl
set_option maxRecDepth 100000 in
theorem wi_X8_readMade : (Jvm.Cond.instanceMethod ({ cls := "ReportBlocksModel", name := "readMade", desc := "(II)V" } : Jvm.MethodName)) ∈ GB := gb_t (List.mem_of_getElem? (i := 825) rfl) rfl
set_option maxRecDepth 100000 in
theorem wc_X8_readMade : Cond.code yX8_readMade cX8_readMade 4 (Option.none : Option Jvm.ClassFile.FieldType) ∈ GB := gb_t (List.mem_of_getElem? (i := 826) rfl) rfl
set_option maxRecDepth 100000 in
theorem wl_L_55 : (Jvm.Cond.methodLink "ReportBlocksLaw" (55 : Nat) ({ cls := "ReportBlocksModel", name := "fault", desc := "()I" } : Jvm.MethodName)) ∈ GB := gb_t (List.mem_of_getElem? (i := 827) rfl) rfl
set_option maxRecDepth 100000 in
theorem wi_X8_fault : (Jvm.Cond.instanceMethod ({ cls := "ReportBlocksModel", name := "fault", desc := "()I" } : Jvm.MethodName)) ∈ GB := gb_t (List.mem_of_getElem? (i := 828) rfl) rfl
set_option maxRecDepth 100000 in
theorem wv_X8_fault : (Jvm.Cond.selects "ReportBlocksModel" ({ cls := "ReportBlocksModel", name := "fault", desc := "()I" } : Jvm.MethodName) ({ cls := "ReportBlocksModel", name := "fault", desc := "()I" } : Jvm.MethodName)) ∈ GB := gb_t (List.mem_of_getElem? (i := 829) rfl) rfl
set_option maxRecDepth 100000 in
theorem wc_X8_fault : Cond.code yX8_fault cX8_fault 1 (Option.some Jvm.ClassFile.FieldType.int) ∈ GB := gb_t (List.mem_of_getElem? (i := 830) rfl) rfl
set_option maxRecDepth 100000 in
theorem wl_L_59 : (Jvm.Cond.methodLink "ReportBlocksLaw" (59 : Nat) ({ cls := "ReportBlocksModel", name := "records", desc := "(I)I" } : Jvm.MethodName)) ∈ GB := gb_t (List.mem_of_getElem? (i := 831) rfl) rfl
set_option maxRecDepth 100000 in
theorem wi_X8_records : (Jvm.Cond.instanceMethod ({ cls := "ReportBlocksModel", name := "records", desc := "(I)I" } : Jvm.MethodName)) ∈ GB := gb_t (List.mem_of_getElem? (i := 832) rfl) rfl
set_option maxRecDepth 100000 in
theorem wv_X8_records : (Jvm.Cond.selects "ReportBlocksModel" ({ cls := "ReportBlocksModel", name := "records", desc := "(I)I" } : Jvm.MethodName) ({ cls := "ReportBlocksModel", name := "records", desc := "(I)I" } : Jvm.MethodName)) ∈ GB := gb_t (List.mem_of_getElem? (i := 833) rfl) rfl
set_option maxRecDepth 100000 in
theorem wc_X8_records : Cond.code yX8_records cX8_records 2 (Option.some Jvm.ClassFile.FieldType.int) ∈ GB := gb_t (List.mem_of_getElem? (i := 834) rfl) rfl
set_option maxRecDepth 100000 in
theorem wl_L_63 : (Jvm.Cond.methodLink "ReportBlocksLaw" (63 : Nat) ({ cls := "ReportBlocksModel", name := "has", desc := "(III)I" } : Jvm.MethodName)) ∈ GB := gb_t (List.mem_of_getElem? (i := 835) rfl) rfl
set_option maxRecDepth 100000 in
theorem wi_X8_has : (Jvm.Cond.instanceMethod ({ cls := "ReportBlocksModel", name := "has", desc := "(III)I" } : Jvm.MethodName)) ∈ GB := gb_t (List.mem_of_getElem? (i := 836) rfl) rfl
set_option maxRecDepth 100000 in
theorem wv_X8_has : (Jvm.Cond.selects "ReportBlocksModel" ({ cls := "ReportBlocksModel", name := "has", desc := "(III)I" } : Jvm.MethodName) ({ cls := "ReportBlocksModel", name := "has", desc := "(III)I" } : Jvm.MethodName)) ∈ GB := gb_t (List.mem_of_getElem? (i := 837) rfl) rfl
set_option maxRecDepth 100000 in
theorem wc_X8_has : Cond.code yX8_has cX8_has 5 (Option.some Jvm.ClassFile.FieldType.int) ∈ GB := gb_t (List.mem_of_getElem? (i := 838) rfl) rfl
set_option maxRecDepth 100000 in
theorem wl_X8_196 : (Jvm.Cond.methodLink "ReportBlocksModel" (196 : Nat) ({ cls := "ReportBlocksModel", name := "isRecord", desc := "(I)Z" } : Jvm.MethodName)) ∈ GB := gb_t (List.mem_of_getElem? (i := 839) rfl) rfl
set_option maxRecDepth 100000 in
theorem wi_X8_isRecord : (Jvm.Cond.instanceMethod ({ cls := "ReportBlocksModel", name := "isRecord", desc := "(I)Z" } : Jvm.MethodName)) ∈ GB := gb_t (List.mem_of_getElem? (i := 841) rfl) rfl
set_option maxRecDepth 100000 in
theorem wc_X8_isRecord : Cond.code yX8_isRecord cX8_isRecord 2 (Option.some Jvm.ClassFile.FieldType.boolean) ∈ GB := gb_t (List.mem_of_getElem? (i := 842) rfl) rfl
set_option maxRecDepth 100000 in
theorem wl_L_67 : (Jvm.Cond.methodLink "ReportBlocksLaw" (67 : Nat) ({ cls := "ReportBlocksModel", name := "at", desc := "(III)I" } : Jvm.MethodName)) ∈ GB := gb_t (List.mem_of_getElem? (i := 843) rfl) rfl
set_option maxRecDepth 100000 in
theorem wi_X8_at : (Jvm.Cond.instanceMethod ({ cls := "ReportBlocksModel", name := "at", desc := "(III)I" } : Jvm.MethodName)) ∈ GB := gb_t (List.mem_of_getElem? (i := 844) rfl) rfl
set_option maxRecDepth 100000 in
theorem wv_X8_at : (Jvm.Cond.selects "ReportBlocksModel" ({ cls := "ReportBlocksModel", name := "at", desc := "(III)I" } : Jvm.MethodName) ({ cls := "ReportBlocksModel", name := "at", desc := "(III)I" } : Jvm.MethodName)) ∈ GB := gb_t (List.mem_of_getElem? (i := 845) rfl) rfl
set_option maxRecDepth 100000 in
theorem wc_X8_at : Cond.code yX8_at cX8_at 4 (Option.some Jvm.ClassFile.FieldType.int) ∈ GB := gb_t (List.mem_of_getElem? (i := 846) rfl) rfl
set_option maxRecDepth 100000 in
theorem wl_L_72 : (Jvm.Cond.methodLink "ReportBlocksLaw" (72 : Nat) ({ cls := "ReportBlocksModel", name := "number", desc := "(III)J" } : Jvm.MethodName)) ∈ GB := gb_t (List.mem_of_getElem? (i := 847) rfl) rfl
set_option maxRecDepth 100000 in
theorem wi_X8_number : (Jvm.Cond.instanceMethod ({ cls := "ReportBlocksModel", name := "number", desc := "(III)J" } : Jvm.MethodName)) ∈ GB := gb_t (List.mem_of_getElem? (i := 848) rfl) rfl
set_option maxRecDepth 100000 in
theorem wv_X8_number : (Jvm.Cond.selects "ReportBlocksModel" ({ cls := "ReportBlocksModel", name := "number", desc := "(III)J" } : Jvm.MethodName) ({ cls := "ReportBlocksModel", name := "number", desc := "(III)J" } : Jvm.MethodName)) ∈ GB := gb_t (List.mem_of_getElem? (i := 849) rfl) rfl
set_option maxRecDepth 100000 in
theorem wc_X8_number : Cond.code yX8_number cX8_number 6 (Option.some Jvm.ClassFile.FieldType.long) ∈ GB := gb_t (List.mem_of_getElem? (i := 850) rfl) rfl
set_option maxRecDepth 100000 in
theorem wo_X8_205 : (Jvm.Cond.constantLong "ReportBlocksModel" (205 : Nat) (-1 : Int64)) ∈ GB := gb_t (List.mem_of_getElem? (i := 851) rfl) rfl
set_option maxRecDepth 100000 in
theorem wo_X8_203 : (Jvm.Cond.constantLong "ReportBlocksModel" (203 : Nat) (-9 : Int64)) ∈ GB := gb_t (List.mem_of_getElem? (i := 852) rfl) rfl
set_option maxRecDepth 100000 in
theorem wl_X8_199 : (Jvm.Cond.methodLink "ReportBlocksModel" (199 : Nat) ({ cls := "ReportBlocksModel", name := "together", desc := "(II)J" } : Jvm.MethodName)) ∈ GB := gb_t (List.mem_of_getElem? (i := 853) rfl) rfl
set_option maxRecDepth 100000 in
theorem wi_X8_together : (Jvm.Cond.instanceMethod ({ cls := "ReportBlocksModel", name := "together", desc := "(II)J" } : Jvm.MethodName)) ∈ GB := gb_t (List.mem_of_getElem? (i := 855) rfl) rfl
set_option maxRecDepth 100000 in
theorem wc_X8_together : Cond.code yX8_together cX8_together 6 (Option.some Jvm.ClassFile.FieldType.long) ∈ GB := gb_t (List.mem_of_getElem? (i := 856) rfl) rfl
set_option maxRecDepth 100000 in
theorem wl_X8_207 : (Jvm.Cond.methodLink "ReportBlocksModel" (207 : Nat) ({ cls := "ReportBlocksModel", name := "ofMade", desc := "(IIII)J" } : Jvm.MethodName)) ∈ GB := gb_t (List.mem_of_getElem? (i := 857) rfl) rfl
set_option maxRecDepth 100000 in
theorem wi_X8_ofMade : (Jvm.Cond.instanceMethod ({ cls := "ReportBlocksModel", name := "ofMade", desc := "(IIII)J" } : Jvm.MethodName)) ∈ GB := gb_t (List.mem_of_getElem? (i := 859) rfl) rfl
set_option maxRecDepth 100000 in
theorem wc_X8_ofMade : Cond.code yX8_ofMade cX8_ofMade 11 (Option.some Jvm.ClassFile.FieldType.long) ∈ GB := gb_t (List.mem_of_getElem? (i := 860) rfl) rfl
set_option maxRecDepth 100000 in
theorem wl_L_76 : (Jvm.Cond.methodLink "ReportBlocksLaw" (76 : Nat) ({ cls := "ReportBlocksModel", name := "begin", desc := "(I)I" } : Jvm.MethodName)) ∈ GB := gb_t (List.mem_of_getElem? (i := 861) rfl) rfl
set_option maxRecDepth 100000 in
theorem wi_X8_begin : (Jvm.Cond.instanceMethod ({ cls := "ReportBlocksModel", name := "begin", desc := "(I)I" } : Jvm.MethodName)) ∈ GB := gb_t (List.mem_of_getElem? (i := 862) rfl) rfl
set_option maxRecDepth 100000 in
theorem wv_X8_begin : (Jvm.Cond.selects "ReportBlocksModel" ({ cls := "ReportBlocksModel", name := "begin", desc := "(I)I" } : Jvm.MethodName) ({ cls := "ReportBlocksModel", name := "begin", desc := "(I)I" } : Jvm.MethodName)) ∈ GB := gb_t (List.mem_of_getElem? (i := 863) rfl) rfl
set_option maxRecDepth 100000 in
theorem wc_X8_begin : Cond.code yX8_begin cX8_begin 3 (Option.some Jvm.ClassFile.FieldType.int) ∈ GB := gb_t (List.mem_of_getElem? (i := 864) rfl) rfl
set_option maxRecDepth 100000 in
theorem wl_L_80 : (Jvm.Cond.methodLink "ReportBlocksLaw" (80 : Nat) ({ cls := "ReportBlocksModel", name := "set", desc := "(I)I" } : Jvm.MethodName)) ∈ GB := gb_t (List.mem_of_getElem? (i := 865) rfl) rfl
set_option maxRecDepth 100000 in
theorem wi_X8_set : (Jvm.Cond.instanceMethod ({ cls := "ReportBlocksModel", name := "set", desc := "(I)I" } : Jvm.MethodName)) ∈ GB := gb_t (List.mem_of_getElem? (i := 866) rfl) rfl
set_option maxRecDepth 100000 in
theorem wv_X8_set : (Jvm.Cond.selects "ReportBlocksModel" ({ cls := "ReportBlocksModel", name := "set", desc := "(I)I" } : Jvm.MethodName) ({ cls := "ReportBlocksModel", name := "set", desc := "(I)I" } : Jvm.MethodName)) ∈ GB := gb_t (List.mem_of_getElem? (i := 867) rfl) rfl
set_option maxRecDepth 100000 in
theorem wc_X8_set : Cond.code yX8_set cX8_set 5 (Option.some Jvm.ClassFile.FieldType.int) ∈ GB := gb_t (List.mem_of_getElem? (i := 868) rfl) rfl
set_option maxRecDepth 100000 in
theorem wl_L_84 : (Jvm.Cond.methodLink "ReportBlocksLaw" (84 : Nat) ({ cls := "ReportBlocksModel", name := "take", desc := "(I)I" } : Jvm.MethodName)) ∈ GB := gb_t (List.mem_of_getElem? (i := 869) rfl) rfl
set_option maxRecDepth 100000 in
theorem wi_X8_take : (Jvm.Cond.instanceMethod ({ cls := "ReportBlocksModel", name := "take", desc := "(I)I" } : Jvm.MethodName)) ∈ GB := gb_t (List.mem_of_getElem? (i := 870) rfl) rfl
set_option maxRecDepth 100000 in
theorem wv_X8_take : (Jvm.Cond.selects "ReportBlocksModel" ({ cls := "ReportBlocksModel", name := "take", desc := "(I)I" } : Jvm.MethodName) ({ cls := "ReportBlocksModel", name := "take", desc := "(I)I" } : Jvm.MethodName)) ∈ GB := gb_t (List.mem_of_getElem? (i := 871) rfl) rfl
set_option maxRecDepth 100000 in
theorem wc_X8_take : Cond.code yX8_take cX8_take 3 (Option.some Jvm.ClassFile.FieldType.int) ∈ GB := gb_t (List.mem_of_getElem? (i := 872) rfl) rfl
set_option maxRecDepth 100000 in
theorem wl_L_88 : (Jvm.Cond.methodLink "ReportBlocksLaw" (88 : Nat) ({ cls := "ReportBlocksModel", name := "write", desc := "()I" } : Jvm.MethodName)) ∈ GB := gb_t (List.mem_of_getElem? (i := 873) rfl) rfl
set_option maxRecDepth 100000 in
theorem wi_X8_write : (Jvm.Cond.instanceMethod ({ cls := "ReportBlocksModel", name := "write", desc := "()I" } : Jvm.MethodName)) ∈ GB := gb_t (List.mem_of_getElem? (i := 874) rfl) rfl
set_option maxRecDepth 100000 in
theorem wv_X8_write : (Jvm.Cond.selects "ReportBlocksModel" ({ cls := "ReportBlocksModel", name := "write", desc := "()I" } : Jvm.MethodName) ({ cls := "ReportBlocksModel", name := "write", desc := "()I" } : Jvm.MethodName)) ∈ GB := gb_t (List.mem_of_getElem? (i := 875) rfl) rfl
set_option maxRecDepth 100000 in
theorem wc_X8_write : Cond.code yX8_write cX8_write 7 (Option.some Jvm.ClassFile.FieldType.int) ∈ GB := gb_t (List.mem_of_getElem? (i := 876) rfl) rfl
set_option maxRecDepth 100000 in
theorem wl_X8_211 : (Jvm.Cond.methodLink "ReportBlocksModel" (211 : Nat) ({ cls := "ReportBlocksModel", name := "put", desc := "(I)V" } : Jvm.MethodName)) ∈ GB := gb_t (List.mem_of_getElem? (i := 877) rfl) rfl
set_option maxRecDepth 100000 in
theorem wi_X8_put : (Jvm.Cond.instanceMethod ({ cls := "ReportBlocksModel", name := "put", desc := "(I)V" } : Jvm.MethodName)) ∈ GB := gb_t (List.mem_of_getElem? (i := 879) rfl) rfl
set_option maxRecDepth 100000 in
theorem wc_X8_put : Cond.code yX8_put cX8_put 2 (Option.none : Option Jvm.ClassFile.FieldType) ∈ GB := gb_t (List.mem_of_getElem? (i := 880) rfl) rfl
set_option maxRecDepth 100000 in
theorem wl_L_92 : (Jvm.Cond.methodLink "ReportBlocksLaw" (92 : Nat) ({ cls := "ReportBlocksModel", name := "copy", desc := "(I)I" } : Jvm.MethodName)) ∈ GB := gb_t (List.mem_of_getElem? (i := 881) rfl) rfl
set_option maxRecDepth 100000 in
theorem wi_X8_copy : (Jvm.Cond.instanceMethod ({ cls := "ReportBlocksModel", name := "copy", desc := "(I)I" } : Jvm.MethodName)) ∈ GB := gb_t (List.mem_of_getElem? (i := 882) rfl) rfl
set_option maxRecDepth 100000 in
theorem wv_X8_copy : (Jvm.Cond.selects "ReportBlocksModel" ({ cls := "ReportBlocksModel", name := "copy", desc := "(I)I" } : Jvm.MethodName) ({ cls := "ReportBlocksModel", name := "copy", desc := "(I)I" } : Jvm.MethodName)) ∈ GB := gb_t (List.mem_of_getElem? (i := 883) rfl) rfl
set_option maxRecDepth 100000 in
theorem wc_X8_copy : Cond.code yX8_copy cX8_copy 5 (Option.some Jvm.ClassFile.FieldType.int) ∈ GB := gb_t (List.mem_of_getElem? (i := 884) rfl) rfl
set_option maxRecDepth 100000 in
theorem wl_L_100 : (Jvm.Cond.methodLink "ReportBlocksLaw" (100 : Nat) ({ cls := "ReportBlocksModel", name := "report", desc := "(I)I" } : Jvm.MethodName)) ∈ GB := gb_t (List.mem_of_getElem? (i := 885) rfl) rfl
set_option maxRecDepth 100000 in
theorem wi_X8_report : (Jvm.Cond.instanceMethod ({ cls := "ReportBlocksModel", name := "report", desc := "(I)I" } : Jvm.MethodName)) ∈ GB := gb_t (List.mem_of_getElem? (i := 886) rfl) rfl
set_option maxRecDepth 100000 in
theorem wv_X8_report : (Jvm.Cond.selects "ReportBlocksModel" ({ cls := "ReportBlocksModel", name := "report", desc := "(I)I" } : Jvm.MethodName) ({ cls := "ReportBlocksModel", name := "report", desc := "(I)I" } : Jvm.MethodName)) ∈ GB := gb_t (List.mem_of_getElem? (i := 887) rfl) rfl
set_option maxRecDepth 100000 in
theorem wc_X8_report : Cond.code yX8_report cX8_report 9 (Option.some Jvm.ClassFile.FieldType.int) ∈ GB := gb_t (List.mem_of_getElem? (i := 888) rfl) rfl
set_option maxRecDepth 100000 in
theorem wl_X8_219 : (Jvm.Cond.methodLink "ReportBlocksModel" (219 : Nat) ({ cls := "ReportBlocksModel", name := "signed", desc := "(J)I" } : Jvm.MethodName)) ∈ GB := gb_t (List.mem_of_getElem? (i := 889) rfl) rfl
set_option maxRecDepth 100000 in
theorem wt_X8_signed : (Jvm.Cond.static ({ cls := "ReportBlocksModel", name := "signed", desc := "(J)I" } : Jvm.MethodName)) ∈ GB := gb_t (List.mem_of_getElem? (i := 890) rfl) rfl
set_option maxRecDepth 100000 in
theorem wc_X8_signed : Cond.code yX8_signed cX8_signed 3 (Option.some Jvm.ClassFile.FieldType.int) ∈ GB := gb_t (List.mem_of_getElem? (i := 891) rfl) rfl
set_option maxRecDepth 100000 in
theorem wo_X8_214 : (Jvm.Cond.constant "ReportBlocksModel" (214 : Nat) (65535 : Int32)) ∈ GB := gb_t (List.mem_of_getElem? (i := 892) rfl) rfl
set_option maxRecDepth 100000 in
theorem wo_X8_215 : (Jvm.Cond.constant "ReportBlocksModel" (215 : Nat) (65536 : Int32)) ∈ GB := gb_t (List.mem_of_getElem? (i := 893) rfl) rfl
set_option maxRecDepth 100000 in
theorem wl_X8_223 : (Jvm.Cond.methodLink "ReportBlocksModel" (223 : Nat) ({ cls := "ReportBlocksModel", name := "trackOf", desc := "(I)I" } : Jvm.MethodName)) ∈ GB := gb_t (List.mem_of_getElem? (i := 894) rfl) rfl
set_option maxRecDepth 100000 in
theorem wi_X8_trackOf : (Jvm.Cond.instanceMethod ({ cls := "ReportBlocksModel", name := "trackOf", desc := "(I)I" } : Jvm.MethodName)) ∈ GB := gb_t (List.mem_of_getElem? (i := 896) rfl) rfl
set_option maxRecDepth 100000 in
theorem wc_X8_trackOf : Cond.code yX8_trackOf cX8_trackOf 3 (Option.some Jvm.ClassFile.FieldType.int) ∈ GB := gb_t (List.mem_of_getElem? (i := 897) rfl) rfl
set_option maxRecDepth 100000 in
theorem wl_L_104 : (Jvm.Cond.methodLink "ReportBlocksLaw" (104 : Nat) ({ cls := "ReportBlocksModel", name := "tick", desc := "(I)I" } : Jvm.MethodName)) ∈ GB := gb_t (List.mem_of_getElem? (i := 898) rfl) rfl
set_option maxRecDepth 100000 in
theorem wi_X8_tick : (Jvm.Cond.instanceMethod ({ cls := "ReportBlocksModel", name := "tick", desc := "(I)I" } : Jvm.MethodName)) ∈ GB := gb_t (List.mem_of_getElem? (i := 899) rfl) rfl
set_option maxRecDepth 100000 in
theorem wv_X8_tick : (Jvm.Cond.selects "ReportBlocksModel" ({ cls := "ReportBlocksModel", name := "tick", desc := "(I)I" } : Jvm.MethodName) ({ cls := "ReportBlocksModel", name := "tick", desc := "(I)I" } : Jvm.MethodName)) ∈ GB := gb_t (List.mem_of_getElem? (i := 900) rfl) rfl
set_option maxRecDepth 100000 in
theorem wc_X8_tick : Cond.code yX8_tick cX8_tick 6 (Option.some Jvm.ClassFile.FieldType.int) ∈ GB := gb_t (List.mem_of_getElem? (i := 901) rfl) rfl
set_option maxRecDepth 100000 in
theorem wl_X8_232 : (Jvm.Cond.methodLink "ReportBlocksModel" (232 : Nat) ({ cls := "ReportBlocksModel", name := "moves", desc := "(II)V" } : Jvm.MethodName)) ∈ GB := gb_t (List.mem_of_getElem? (i := 902) rfl) rfl
set_option maxRecDepth 100000 in
theorem wi_X8_moves : (Jvm.Cond.instanceMethod ({ cls := "ReportBlocksModel", name := "moves", desc := "(II)V" } : Jvm.MethodName)) ∈ GB := gb_t (List.mem_of_getElem? (i := 904) rfl) rfl
set_option maxRecDepth 100000 in
theorem wc_X8_moves : Cond.code yX8_moves cX8_moves 3 (Option.none : Option Jvm.ClassFile.FieldType) ∈ GB := gb_t (List.mem_of_getElem? (i := 905) rfl) rfl
set_option maxRecDepth 100000 in
theorem wl_L_109 : (Jvm.Cond.methodLink "ReportBlocksLaw" (109 : Nat) ({ cls := "ReportBlocksModel", name := "track", desc := "(II)I" } : Jvm.MethodName)) ∈ GB := gb_t (List.mem_of_getElem? (i := 906) rfl) rfl
set_option maxRecDepth 100000 in
theorem wi_X8_track : (Jvm.Cond.instanceMethod ({ cls := "ReportBlocksModel", name := "track", desc := "(II)I" } : Jvm.MethodName)) ∈ GB := gb_t (List.mem_of_getElem? (i := 907) rfl) rfl
set_option maxRecDepth 100000 in
theorem wv_X8_track : (Jvm.Cond.selects "ReportBlocksModel" ({ cls := "ReportBlocksModel", name := "track", desc := "(II)I" } : Jvm.MethodName) ({ cls := "ReportBlocksModel", name := "track", desc := "(II)I" } : Jvm.MethodName)) ∈ GB := gb_t (List.mem_of_getElem? (i := 908) rfl) rfl
set_option maxRecDepth 100000 in
theorem wc_X8_track : Cond.code yX8_track cX8_track 3 (Option.some Jvm.ClassFile.FieldType.int) ∈ GB := gb_t (List.mem_of_getElem? (i := 909) rfl) rfl
set_option maxRecDepth 100000 in
theorem wl_L_113 : (Jvm.Cond.methodLink "ReportBlocksLaw" (113 : Nat) ({ cls := "ReportBlocksModel", name := "count", desc := "(I)I" } : Jvm.MethodName)) ∈ GB := gb_t (List.mem_of_getElem? (i := 910) rfl) rfl
set_option maxRecDepth 100000 in
theorem wi_X8_count : (Jvm.Cond.instanceMethod ({ cls := "ReportBlocksModel", name := "count", desc := "(I)I" } : Jvm.MethodName)) ∈ GB := gb_t (List.mem_of_getElem? (i := 911) rfl) rfl
set_option maxRecDepth 100000 in
theorem wv_X8_count : (Jvm.Cond.selects "ReportBlocksModel" ({ cls := "ReportBlocksModel", name := "count", desc := "(I)I" } : Jvm.MethodName) ({ cls := "ReportBlocksModel", name := "count", desc := "(I)I" } : Jvm.MethodName)) ∈ GB := gb_t (List.mem_of_getElem? (i := 912) rfl) rfl
set_option maxRecDepth 100000 in
theorem wc_X8_count : Cond.code yX8_count cX8_count 2 (Option.some Jvm.ClassFile.FieldType.int) ∈ GB := gb_t (List.mem_of_getElem? (i := 913) rfl) rfl
set_option maxRecDepth 100000 in
theorem wo_L_36 : (Jvm.Cond.constantLong "ReportBlocksLaw" (36 : Nat) (4294967295 : Int64)) ∈ GB := gb_t (List.mem_of_getElem? (i := 914) rfl) rfl
set_option maxRecDepth 100000 in
theorem wv_X7_indexOfNumber : Cond.selects RX7 yX7_indexOfNumber yX7_indexOfNumber ∈ GB := gb_p (List.mem_of_getElem? (i := 0) rfl) rfl
set_option maxRecDepth 100000 in
theorem wv_X7_categoryAt : Cond.selects RX7 yX7_categoryAt yX7_categoryAt ∈ GB := gb_p (List.mem_of_getElem? (i := 1) rfl) rfl
set_option maxRecDepth 100000 in
theorem wv_X7_isInUse : Cond.selects RX7 yX7_isInUse yX7_isInUse ∈ GB := gb_p (List.mem_of_getElem? (i := 2) rfl) rfl
set_option maxRecDepth 100000 in
theorem wv_X7_passBlock : Cond.selects RX7 yX7_passBlock yX7_passBlock ∈ GB := gb_p (List.mem_of_getElem? (i := 3) rfl) rfl
set_option maxRecDepth 100000 in
theorem wv_X3_passBits : Cond.selects RX3 yX3_passBits yX3_passBits ∈ GB := gb_p (List.mem_of_getElem? (i := 4) rfl) rfl
set_option maxRecDepth 100000 in
theorem wv_X3_lookForPlaces : Cond.selects RX3 yX3_lookForPlaces yX3_lookForPlaces ∈ GB := gb_p (List.mem_of_getElem? (i := 5) rfl) rfl
set_option maxRecDepth 100000 in
theorem wv_X3_pass : Cond.selects RX3 yX3_pass yX3_pass ∈ GB := gb_p (List.mem_of_getElem? (i := 6) rfl) rfl
set_option maxRecDepth 100000 in
theorem wv_X3_passGoing : Cond.selects RX3 yX3_passGoing yX3_passGoing ∈ GB := gb_p (List.mem_of_getElem? (i := 7) rfl) rfl
set_option maxRecDepth 100000 in
theorem wv_X3_passAgain : Cond.selects RX3 yX3_passAgain yX3_passAgain ∈ GB := gb_p (List.mem_of_getElem? (i := 8) rfl) rfl
set_option maxRecDepth 100000 in
theorem wv_X3_passMade : Cond.selects RX3 yX3_passMade yX3_passMade ∈ GB := gb_p (List.mem_of_getElem? (i := 9) rfl) rfl
set_option maxRecDepth 100000 in
theorem wv_X7_isRecord : Cond.selects RX7 yX7_isRecord yX7_isRecord ∈ GB := gb_p (List.mem_of_getElem? (i := 10) rfl) rfl
set_option maxRecDepth 100000 in
theorem wv_X7_partNumber : Cond.selects RX7 yX7_partNumber yX7_partNumber ∈ GB := gb_p (List.mem_of_getElem? (i := 11) rfl) rfl
set_option maxRecDepth 100000 in
theorem wv_X8_find : Cond.selects RX8 yX8_find yX8_find ∈ GB := gb_p (List.mem_of_getElem? (i := 12) rfl) rfl
set_option maxRecDepth 100000 in
theorem wv_X8_becomes : Cond.selects RX8 yX8_becomes yX8_becomes ∈ GB := gb_p (List.mem_of_getElem? (i := 13) rfl) rfl
set_option maxRecDepth 100000 in
theorem wv_X8_isCategory : Cond.selects RX8 yX8_isCategory yX8_isCategory ∈ GB := gb_p (List.mem_of_getElem? (i := 14) rfl) rfl
set_option maxRecDepth 100000 in
theorem wv_X8_isInUse : Cond.selects RX8 yX8_isInUse yX8_isInUse ∈ GB := gb_p (List.mem_of_getElem? (i := 15) rfl) rfl
set_option maxRecDepth 100000 in
theorem wv_X8_isFixed : Cond.selects RX8 yX8_isFixed yX8_isFixed ∈ GB := gb_p (List.mem_of_getElem? (i := 16) rfl) rfl
set_option maxRecDepth 100000 in
theorem wv_X8_readBlock : Cond.selects RX8 yX8_readBlock yX8_readBlock ∈ GB := gb_p (List.mem_of_getElem? (i := 17) rfl) rfl
set_option maxRecDepth 100000 in
theorem wv_X8_fails : Cond.selects RX8 yX8_fails yX8_fails ∈ GB := gb_p (List.mem_of_getElem? (i := 18) rfl) rfl
set_option maxRecDepth 100000 in
theorem wv_X8_readRecord : Cond.selects RX8 yX8_readRecord yX8_readRecord ∈ GB := gb_p (List.mem_of_getElem? (i := 19) rfl) rfl
set_option maxRecDepth 100000 in
theorem wv_X8_readBits : Cond.selects RX8 yX8_readBits yX8_readBits ∈ GB := gb_p (List.mem_of_getElem? (i := 20) rfl) rfl
set_option maxRecDepth 100000 in
theorem wv_X8_takes : Cond.selects RX8 yX8_takes yX8_takes ∈ GB := gb_p (List.mem_of_getElem? (i := 21) rfl) rfl
set_option maxRecDepth 100000 in
theorem wv_X8_needs : Cond.selects RX8 yX8_needs yX8_needs ∈ GB := gb_p (List.mem_of_getElem? (i := 22) rfl) rfl
set_option maxRecDepth 100000 in
theorem wv_X8_isEmptyByte : Cond.selects RX8 yX8_isEmptyByte yX8_isEmptyByte ∈ GB := gb_p (List.mem_of_getElem? (i := 23) rfl) rfl
set_option maxRecDepth 100000 in
theorem wv_X8_readItem : Cond.selects RX8 yX8_readItem yX8_readItem ∈ GB := gb_p (List.mem_of_getElem? (i := 24) rfl) rfl
set_option maxRecDepth 100000 in
theorem wv_X8_readGoing : Cond.selects RX8 yX8_readGoing yX8_readGoing ∈ GB := gb_p (List.mem_of_getElem? (i := 25) rfl) rfl
set_option maxRecDepth 100000 in
theorem wv_X8_readMade : Cond.selects RX8 yX8_readMade yX8_readMade ∈ GB := gb_p (List.mem_of_getElem? (i := 26) rfl) rfl
set_option maxRecDepth 100000 in
theorem wv_X8_isRecord : Cond.selects RX8 yX8_isRecord yX8_isRecord ∈ GB := gb_p (List.mem_of_getElem? (i := 27) rfl) rfl
set_option maxRecDepth 100000 in
theorem wv_X8_together : Cond.selects RX8 yX8_together yX8_together ∈ GB := gb_p (List.mem_of_getElem? (i := 28) rfl) rfl
set_option maxRecDepth 100000 in
theorem wv_X8_ofMade : Cond.selects RX8 yX8_ofMade yX8_ofMade ∈ GB := gb_p (List.mem_of_getElem? (i := 29) rfl) rfl
set_option maxRecDepth 100000 in
theorem wv_X8_put : Cond.selects RX8 yX8_put yX8_put ∈ GB := gb_p (List.mem_of_getElem? (i := 30) rfl) rfl
set_option maxRecDepth 100000 in
theorem wv_X8_trackOf : Cond.selects RX8 yX8_trackOf yX8_trackOf ∈ GB := gb_p (List.mem_of_getElem? (i := 31) rfl) rfl
set_option maxRecDepth 100000 in
theorem wv_X8_moves : Cond.selects RX8 yX8_moves yX8_moves ∈ GB := gb_p (List.mem_of_getElem? (i := 32) rfl) rfl
set_option maxRecDepth 100000 in
theorem gy_X0 : ∀ w ∈ u_ws RX0 TX0 7, w ∈ GB := List.forall_mem_cons.mpr ⟨wy_X0_category, List.forall_mem_cons.mpr ⟨wy_X0_count, List.forall_mem_cons.mpr ⟨wy_X0_bytes, List.forall_mem_cons.mpr ⟨wy_X0_size, List.forall_mem_cons.mpr ⟨wy_X0_starts, List.forall_mem_cons.mpr ⟨wy_X0_begins, List.forall_mem_cons.mpr ⟨wy_X0_sizes, fun _ h => absurd h List.not_mem_nil⟩⟩⟩⟩⟩⟩⟩
set_option maxRecDepth 100000 in
theorem gy_X1 : ∀ w ∈ u_ws RX1 TX1 6, w ∈ GB := List.forall_mem_cons.mpr ⟨wy_X1_number, List.forall_mem_cons.mpr ⟨wy_X1_kinds, List.forall_mem_cons.mpr ⟨wy_X1_sizes, List.forall_mem_cons.mpr ⟨wy_X1_parts, List.forall_mem_cons.mpr ⟨wy_X1_numberPlace, List.forall_mem_cons.mpr ⟨wy_X1_positionPlace, fun _ h => absurd h List.not_mem_nil⟩⟩⟩⟩⟩⟩
set_option maxRecDepth 100000 in
theorem gy_X2 : ∀ w ∈ u_ws RX2 TX2 3, w ∈ GB := List.forall_mem_cons.mpr ⟨wy_X2_category, List.forall_mem_cons.mpr ⟨wy_X2_bytes, List.forall_mem_cons.mpr ⟨wy_X2_sizes, fun _ h => absurd h List.not_mem_nil⟩⟩⟩
set_option maxRecDepth 100000 in
theorem gy_X3 : ∀ w ∈ u_ws RX3 TX3 6, w ∈ GB := List.forall_mem_cons.mpr ⟨wy_X3_bytes, List.forall_mem_cons.mpr ⟨wy_X3_table, List.forall_mem_cons.mpr ⟨wy_X3_next, List.forall_mem_cons.mpr ⟨wy_X3_end, List.forall_mem_cons.mpr ⟨wy_X3_fault, List.forall_mem_cons.mpr ⟨wy_X3_faultPlace, fun _ h => absurd h List.not_mem_nil⟩⟩⟩⟩⟩⟩
set_option maxRecDepth 100000 in
theorem gy_X4 : ∀ w ∈ u_ws RX4 TX4 2, w ∈ GB := List.forall_mem_cons.mpr ⟨wy_X4_bytes, List.forall_mem_cons.mpr ⟨wy_X4_size, fun _ h => absurd h List.not_mem_nil⟩⟩
set_option maxRecDepth 100000 in
theorem gy_X5 : ∀ w ∈ u_ws RX5 TX5 9, w ∈ GB := List.forall_mem_cons.mpr ⟨wy_X5_number, List.forall_mem_cons.mpr ⟨wy_X5_x, List.forall_mem_cons.mpr ⟨wy_X5_y, List.forall_mem_cons.mpr ⟨wy_X5_reportedX, List.forall_mem_cons.mpr ⟨wy_X5_reportedY, List.forall_mem_cons.mpr ⟨wy_X5_speedX, List.forall_mem_cons.mpr ⟨wy_X5_speedY, List.forall_mem_cons.mpr ⟨wy_X5_age, List.forall_mem_cons.mpr ⟨wy_X5_hits, fun _ h => absurd h List.not_mem_nil⟩⟩⟩⟩⟩⟩⟩⟩⟩
set_option maxRecDepth 100000 in
theorem gy_X6 : ∀ w ∈ u_ws RX6 TX6 5, w ∈ GB := List.forall_mem_cons.mpr ⟨wy_X6_tracks, List.forall_mem_cons.mpr ⟨wy_X6_size, List.forall_mem_cons.mpr ⟨wy_X6_lost, List.forall_mem_cons.mpr ⟨wy_X6_dropped, List.forall_mem_cons.mpr ⟨wy_X6_ticks, fun _ h => absurd h List.not_mem_nil⟩⟩⟩⟩⟩
set_option maxRecDepth 100000 in
theorem gy_X7 : ∀ w ∈ u_ws RX7 TX7 10, w ∈ GB := List.forall_mem_cons.mpr ⟨wy_X7_categories, List.forall_mem_cons.mpr ⟨wy_X7_categoryCount, List.forall_mem_cons.mpr ⟨wy_X7_belt, List.forall_mem_cons.mpr ⟨wy_X7_reader, List.forall_mem_cons.mpr ⟨wy_X7_latest, List.forall_mem_cons.mpr ⟨wy_X7_spare, List.forall_mem_cons.mpr ⟨wy_X7_own, List.forall_mem_cons.mpr ⟨wy_X7_row, List.forall_mem_cons.mpr ⟨wy_X7_latestFault, List.forall_mem_cons.mpr ⟨wy_X7_blocksRead, fun _ h => absurd h List.not_mem_nil⟩⟩⟩⟩⟩⟩⟩⟩⟩⟩
set_option maxRecDepth 100000 in
theorem gy_X8 : ∀ w ∈ u_ws RX8 TX8 46, w ∈ GB := List.forall_mem_cons.mpr ⟨wy_X8_categories, List.forall_mem_cons.mpr ⟨wy_X8_numberOf, List.forall_mem_cons.mpr ⟨wy_X8_kind, List.forall_mem_cons.mpr ⟨wy_X8_bytes, List.forall_mem_cons.mpr ⟨wy_X8_parts, List.forall_mem_cons.mpr ⟨wy_X8_trackBy, List.forall_mem_cons.mpr ⟨wy_X8_whereBy, List.forall_mem_cons.mpr ⟨wy_X8_tape, List.forall_mem_cons.mpr ⟨wy_X8_size, List.forall_mem_cons.mpr ⟨wy_X8_at, List.forall_mem_cons.mpr ⟨wy_X8_end, List.forall_mem_cons.mpr ⟨wy_X8_fault, List.forall_mem_cons.mpr ⟨wy_X8_faultAt, List.forall_mem_cons.mpr ⟨wy_X8_toldFault, List.forall_mem_cons.mpr ⟨wy_X8_records, List.forall_mem_cons.mpr ⟨wy_X8_recordsOf, List.forall_mem_cons.mpr ⟨wy_X8_block, List.forall_mem_cons.mpr ⟨wy_X8_begins, List.forall_mem_cons.mpr ⟨wy_X8_itemAt, List.forall_mem_cons.mpr ⟨wy_X8_itemSize, List.forall_mem_cons.mpr ⟨wy_X8_draftRecords, List.forall_mem_cons.mpr ⟨wy_X8_draftBegins, List.forall_mem_cons.mpr ⟨wy_X8_draftAt, List.forall_mem_cons.mpr ⟨wy_X8_draftSize, List.forall_mem_cons.mpr ⟨wy_X8_hasBit, List.forall_mem_cons.mpr ⟨wy_X8_own, List.forall_mem_cons.mpr ⟨wy_X8_ownSize, List.forall_mem_cons.mpr ⟨wy_X8_ownByte, List.forall_mem_cons.mpr ⟨wy_X8_tracks, List.forall_mem_cons.mpr ⟨wy_X8_track, List.forall_mem_cons.mpr ⟨wy_X8_x, List.forall_mem_cons.mpr ⟨wy_X8_y, List.forall_mem_cons.mpr ⟨wy_X8_speedX, List.forall_mem_cons.mpr ⟨wy_X8_speedY, List.forall_mem_cons.mpr ⟨wy_X8_age, List.forall_mem_cons.mpr ⟨wy_X8_hits, List.forall_mem_cons.mpr ⟨wy_X8_lastX, List.forall_mem_cons.mpr ⟨wy_X8_lastY, List.forall_mem_cons.mpr ⟨wy_X8_lastTick, List.forall_mem_cons.mpr ⟨wy_X8_lost, List.forall_mem_cons.mpr ⟨wy_X8_dropped, List.forall_mem_cons.mpr ⟨wy_X8_ticks, List.forall_mem_cons.mpr ⟨wy_X8_blocks, List.forall_mem_cons.mpr ⟨wy_X8_bitsAt, List.forall_mem_cons.mpr ⟨wy_X8_bitBytes, List.forall_mem_cons.mpr ⟨wy_X8_hasPlace, fun _ h => absurd h List.not_mem_nil⟩⟩⟩⟩⟩⟩⟩⟩⟩⟩⟩⟩⟩⟩⟩⟩⟩⟩⟩⟩⟩⟩⟩⟩⟩⟩⟩⟩⟩⟩⟩⟩⟩⟩⟩⟩⟩⟩⟩⟩⟩⟩⟩⟩⟩⟩
end
section
/-! The memory of class and reference as one value: ints, references by place, how many cells. Places count from the law's own start; the address of place k is b + k. -/
abbrev JM : Type := (Nat → Int32 → Int32) × (Nat → Int32 → Option Nat) × Nat
def gi (M : JM) (k : Nat) (j : Int32) : Int32 := M.1 k j
def gr (M : JM) (k : Nat) (j : Int32) : Option Nat := M.2.1 k j
def gn (M : JM) : Nat := M.2.2
def si (M : JM) (k : Nat) (j v : Int32) : JM := (fun k' j' => if k' = k ∧ j' = j then v else M.1 k' j', M.2.1, M.2.2)
def sr (M : JM) (k : Nat) (j : Int32) (o : Option Nat) : JM := (M.1, fun k' j' => if k' = k ∧ j' = j then o else M.2.1 k' j', M.2.2)
def al (M : JM) : JM := (fun k j => if k = M.2.2 then 0 else M.1 k j, fun k j => if k = M.2.2 then none else M.2.1 k j, M.2.2 + 1)
/-- n elements of the array at src from sp on come to the array at dst from dp on -/
def cpm (M : JM) (src : Nat) (sp : Int32) (dst : Nat) (dp n : Int32) : JM := (fun k j => if k = dst ∧ dp ≤ j ∧ j < dp + n then M.1 src (sp + (j - dp)) else M.1 k j, M.2.1, M.2.2)
theorem gi_si (M : JM) (k : Nat) (j v : Int32) (k' : Nat) (j' : Int32) : gi (si M k j v) k' j' = if k' = k ∧ j' = j then v else gi M k' j' := rfl
theorem gi_sr (M : JM) (k : Nat) (j : Int32) (o : Option Nat) (k' : Nat) (j' : Int32) : gi (sr M k j o) k' j' = gi M k' j' := rfl
theorem gr_si (M : JM) (k : Nat) (j v : Int32) (k' : Nat) (j' : Int32) : gr (si M k j v) k' j' = gr M k' j' := rfl
theorem gr_sr (M : JM) (k : Nat) (j : Int32) (o : Option Nat) (k' : Nat) (j' : Int32) : gr (sr M k j o) k' j' = if k' = k ∧ j' = j then o else gr M k' j' := rfl
theorem gn_si (M : JM) (k : Nat) (j v : Int32) : gn (si M k j v) = gn M := rfl
theorem gn_sr (M : JM) (k : Nat) (j : Int32) (o : Option Nat) : gn (sr M k j o) = gn M := rfl
theorem gi_al (M : JM) (k : Nat) (j : Int32) : gi (al M) k j = if k = gn M then 0 else gi M k j := rfl
theorem gr_al (M : JM) (k : Nat) (j : Int32) : gr (al M) k j = if k = gn M then none else gr M k j := rfl
theorem gn_al (M : JM) : gn (al M) = gn M + 1 := rfl
theorem gi_cpm (M : JM) (src : Nat) (sp : Int32) (dst : Nat) (dp n : Int32) (k : Nat) (j : Int32) : gi (cpm M src sp dst dp n) k j = if k = dst ∧ dp ≤ j ∧ j < dp + n then gi M src (sp + (j - dp)) else gi M k j := rfl
theorem gr_cpm (M : JM) (src : Nat) (sp : Int32) (dst : Nat) (dp n : Int32) (k : Nat) (j : Int32) : gr (cpm M src sp dst dp n) k j = gr M k j := rfl
theorem gn_cpm (M : JM) (src : Nat) (sp : Int32) (dst : Nat) (dp n : Int32) : gn (cpm M src sp dst dp n) = gn M := rfl
/-- a step that may fail, and what comes behind it -/
def ob {ρ σ : Type} (o : Option (ρ × JM)) (K : ρ → JM → Option σ) : Option σ := match o with
  | none => none
  | some q => K q.1 q.2
def orf {σ : Type} (o : Option Nat) (K : Nat → Option σ) : Option σ := match o with
  | none => none
  | some k => K k
theorem ob_some {ρ σ : Type} (q : ρ × JM) (K : ρ → JM → Option σ) : ob (some q) K = K q.1 q.2 := rfl
theorem orf_some {σ : Type} (k : Nat) (K : Nat → Option σ) : orf (some k) K = K k := rfl
/-- an answer of type boolean, as an int -/
def bI (b : Bool) : Int32 := if b then 1 else 0
/-! the places' shapes: an object of a class (0, its place in vwCl); rows: 1 of int, 2 of boolean, 3 of Category, 4 of Track, each with its length -/
def shpL : List (Nat × Nat) := [(0, 7), (3, 3), (0, 4), (1, 300), (0, 3), (0, 0), (1, 300), (1, 8), (1, 168), (1, 168), (0, 0), (1, 300), (1, 8), (1, 168), (1, 168), (0, 2), (1, 1218), (1, 22), (0, 6), (4, 12),
  (0, 5), (0, 5), (0, 5), (0, 5), (0, 5), (0, 5), (0, 5), (0, 5), (0, 5), (0, 5), (0, 5), (0, 5),
  (0, 8), (1, 3), (1, 66), (1, 66), (1, 924), (1, 3), (1, 3), (1, 300), (1, 300), (1, 9), (1, 176), (1, 176), (1, 9), (1, 176), (1, 176), (2, 22), (1, 22), (1, 1320), (1, 12), (1, 12), (1, 12), (1, 12), (1, 12), (1, 12), (1, 12), (1, 12), (1, 12), (1, 12), (2, 22),
  (0, 1), (1, 22), (1, 22), (1, 308), (0, 1), (1, 22), (1, 22), (1, 308), (0, 1), (1, 22), (1, 22), (1, 308)]
def shp (k : Nat) : Nat × Nat := shpL[k]?.getD (9, 0)
def ln (k : Nat) : Int32 := nI (shp k).2
/-- a class's fields: 0 an int, else what a reference there is of -/
def ftyL : List (List Nat) := [[0, 0, 1, 0, 1, 1, 1], [0, 1, 1, 1, 0, 0], [0, 1, 1], [1, 11, 0, 0, 0, 0], [1, 0], [0, 0, 0, 0, 0, 0, 0, 0, 0], [4, 0, 0, 0, 0], [3, 0, 14, 13, 10, 10, 12, 16, 0, 0],
  [0, 1, 1, 1, 1, 1, 1, 1, 0, 0, 0, 0, 0, 0, 0, 0, 1, 1, 1, 1, 0, 1, 1, 1, 2, 0, 1, 1, 0, 1, 1, 1, 1, 1, 1, 1, 1, 1, 1, 0, 0, 0, 0, 0, 0, 2]]
def fty (ci : Nat) : List Nat := ftyL[ci]?.getD []
def tc (q : Nat × Nat) : Nat := if q.1 = 0 then 10 + q.2 else q.1
def rty (q : Nat × Nat) (j : Int32) : Nat := if q.1 = 0 then (fty q.2)[j.toNatClampNeg]?.getD 0 else if q.1 = 3 then 11 else if q.1 = 4 then 15 else 0
/-- a place that is there, and what is there -/
def oty (M : JM) (k τ : Nat) : Prop := k < gn M ∧ tc (shp k) = τ
theorem oty.si {M : JM} {k τ : Nat} (h : oty M k τ) (a : Nat) (j v : Int32) : oty (si M a j v) k τ := h
theorem oty.sr {M : JM} {k τ : Nat} (h : oty M k τ) (a : Nat) (j : Int32) (o : Option Nat) : oty (sr M a j o) k τ := h
theorem oty.mono {M M' : JM} {k τ : Nat} (h : oty M k τ) (g : gn M ≤ gn M') : oty M' k τ := ⟨Nat.lt_of_lt_of_le h.1 g, h.2⟩
theorem shp_len (k : Nat) : (shp k).2 < 2000 := by
  unfold shp
  cases h : shpL[k]? with
  | none => decide
  | some q =>
    have h1 : ∀ q ∈ shpL, q.2 < 2000 := by decide +kernel
    exact h1 q (List.mem_of_getElem? h)
def jT (M : JM) : Prop := ∀ (k : Nat) (j : Int32) (r : Nat), k < gn M → gr M k j = some r → r < gn M ∧ tc (shp r) = rty (shp k) j
def vr (b : Nat) (o : Option Nat) : Value := va_rf (o.map (fun k => b + k))
def fldV (b : Nat) (M : JM) (k : Nat) (ty : List Nat) : List Value := (List.range ty.length).map fun j => if ty[j]?.getD 0 = 0 then .int (gi M k (nI j)) else vr b (gr M k (nI j))
abbrev JC : Type := ClassId × ClassId × ClassId × ClassId
def ent (b : Nat) (cs : JC) (M : JM) (k : Nat) : va_E :=
  if (shp k).1 = 0 then .inr ((shp k).2, fldV b M k (fty (shp k).2))
  else if (shp k).1 = 1 then .inl (cs.1, (shp k).2, .inl fun j => gi M k (nI j))
  else if (shp k).1 = 2 then .inl (cs.2.1, (shp k).2, .inl fun j => gi M k (nI j))
  else if (shp k).1 = 3 then .inl (cs.2.2.1, (shp k).2, .inr (.inr (.inr (.inr fun j => (gr M k (nI j)).map (fun k => b + k)))))
  else .inl (cs.2.2.2, (shp k).2, .inr (.inr (.inr (.inr fun j => (gr M k (nI j)).map (fun k => b + k)))))
def jtys (cs : JC) : List (ClassId × FieldType) := [(cs.1, .int), (cs.2.1, .boolean), (cs.2.2.1, .object RX1), (cs.2.2.2, .object RX5)]
/-- the heap holds the memory -/
def jR (D : va_G) (cs : JC) (b : Nat) (M : JM) (H : Heap) : Prop := H.size = b + gn M ∧ (∀ k, k < gn M → va_at D vwCl (b + k, ent b cs M k) H) ∧ jT M
theorem tc_obj {q : Nat × Nat} {ci : Nat} (h : tc q = 10 + ci) (hs : q.1 < 10) : q = (0, ci) := by
  unfold tc at h
  obtain ⟨a, d⟩ := q
  dsimp only at h hs
  split at h
  · rename_i h0
    subst h0
    have : d = ci := by omega
    rw [this]
  · omega
theorem shp_fst (k : Nat) : (shp k).1 < 10 := by
  unfold shp
  cases h : shpL[k]? with
  | none => decide
  | some q =>
    have h1 : ∀ q ∈ shpL, q.1 < 10 := by decide +kernel
    exact h1 q (List.mem_of_getElem? h)
theorem tc_row {q : Nat × Nat} {a : Nat} (h : tc q = a) (hs : a < 10) : q.1 = a := by
  unfold tc at h
  split at h
  · omega
  · exact h
theorem ent_obj {b : Nat} {cs : JC} {M : JM} {k ci : Nat} (h : tc (shp k) = 10 + ci) : ent b cs M k = .inr (ci, fldV b M k (fty ci)) := by
  have h1 := tc_obj h (shp_fst k)
  unfold ent
  rw [h1]
  rfl
theorem ent_int {b : Nat} {cs : JC} {M : JM} {k : Nat} (h : tc (shp k) = 1) : ent b cs M k = .inl (cs.1, (shp k).2, .inl fun j => gi M k (nI j)) := by
  have h1 := tc_row h (by decide)
  unfold ent
  rw [if_neg (by rw [h1]; decide), if_pos h1]
theorem ent_bool {b : Nat} {cs : JC} {M : JM} {k : Nat} (h : tc (shp k) = 2) : ent b cs M k = .inl (cs.2.1, (shp k).2, .inl fun j => gi M k (nI j)) := by
  have h1 := tc_row h (by decide)
  unfold ent
  rw [if_neg (by rw [h1]; decide), if_neg (by rw [h1]; decide), if_pos h1]
theorem ent_cat {b : Nat} {cs : JC} {M : JM} {k : Nat} (h : tc (shp k) = 3) : ent b cs M k = .inl (cs.2.2.1, (shp k).2, .inr (.inr (.inr (.inr fun j => (gr M k (nI j)).map (fun k => b + k))))) := by
  have h1 := tc_row h (by decide)
  unfold ent
  rw [if_neg (by rw [h1]; decide), if_neg (by rw [h1]; decide), if_neg (by rw [h1]; decide), if_pos h1]
theorem ent_trk {b : Nat} {cs : JC} {M : JM} {k : Nat} (h : tc (shp k) = 4) : ent b cs M k = .inl (cs.2.2.2, (shp k).2, .inr (.inr (.inr (.inr fun j => (gr M k (nI j)).map (fun k => b + k))))) := by
  have h1 := tc_row h (by decide)
  unfold ent
  rw [if_neg (by rw [h1]; decide), if_neg (by rw [h1]; decide), if_neg (by rw [h1]; decide), if_neg (by rw [h1]; decide)]
theorem nI_cl {i : Int32} (h : ¬ i < 0) : nI i.toNatClampNeg = i := by
  obtain ⟨j, hj, rfl⟩ := nI_of h
  rw [nI_clamp hj]
theorem nI_inj {a c : Nat} (ha : a < 2 ^ 31) (hc : c < 2 ^ 31) (h : nI a = nI c) : a = c := (nI_eq ha hc).mp h
/-- an index within, as the programs ask it -/
theorem in_of {i : Int32} {n : Nat} (hn : n < 2000) (h : 0 ≤ i ∧ i < nI n) : vp_in i n ∧ nI i.toNatClampNeg = i ∧ i.toNatClampNeg < n := by
  have h0 : ¬ i < 0 := Int32.not_lt.mpr h.1
  obtain ⟨j, hj, rfl⟩ := nI_of h0
  have h1 : j < n := (nI_ltI hj (by omega)).mp h.2
  exact ⟨vp_in_nI h1 (by omega), nI_cl h0, by rw [nI_clamp hj]; exact h1⟩
theorem fldV_get {b : Nat} {M : JM} {k : Nat} {ty : List Nat} {j : Nat} (h : j < ty.length) : (fldV b M k ty)[j]? = some (if ty[j]?.getD 0 = 0 then .int (gi M k (nI j)) else vr b (gr M k (nI j))) := by
  unfold fldV
  simp [h]
theorem fldV_len {b : Nat} {M : JM} {k : Nat} {ty : List Nat} : (fldV b M k ty).length = ty.length := by simp [fldV]
/-- the cells behind a store: one is another, the rest are as they were -/
theorem jR.set {D : va_G} {cs : JC} {b : Nat} {M M' : JM} {H H1 : Heap} {k : Nat} (h : jR D cs b M H) (hz : H1.size = H.size) (ho : ∀ q : Nat, q ≠ b + k → H1[q]? = H[q]?) (hn : gn M' = gn M) (he : ∀ i, i < gn M → i ≠ k → ent b cs M' i = ent b cs M i) (hk : va_at D vwCl (b + k, ent b cs M' k) H1) (hT : jT M') : jR D cs b M' H1 := by
  refine ⟨by rw [hz, h.1, hn], fun i hi => ?_, hT⟩
  rw [hn] at hi
  by_cases hik : i = k
  · rw [hik]; exact hk
  · rw [he i hi hik]
    exact (h.2.1 i hi).kept (ho _ (by show b + i ≠ b + k; omega))
theorem ent_same {b : Nat} {cs : JC} {M M' : JM} {i : Nat} (h1 : ∀ j, gi M' i j = gi M i j) (h2 : ∀ j, gr M' i j = gr M i j) : ent b cs M' i = ent b cs M i := by
  unfold ent fldV
  simp only [h1, h2]
theorem jT_si {M : JM} (h : jT M) (k : Nat) (j v : Int32) : jT (si M k j v) := h
theorem jT_cpm {M : JM} (h : jT M) (k k' : Nat) (j j' v : Int32) : jT (cpm M k j k' j' v) := h
theorem jT_sr {M : JM} (h : jT M) {k : Nat} {j : Int32} {o : Option Nat} (ho : ∀ r, o = some r → r < gn M ∧ tc (shp r) = rty (shp k) j) : jT (sr M k j o) := by
  intro k' j' r hk hr
  rw [gr_sr] at hr
  split at hr
  · rename_i hc
    rw [hc.1, hc.2]
    exact ho r hr
  · exact h k' j' r hk hr
theorem jT_al {M : JM} (h : jT M) : jT (al M) := by
  intro k j r hk hr
  rw [gr_al] at hr
  split at hr
  · cases hr
  · rename_i hc
    have := h k j r (by rw [gn_al] at hk; omega) hr
    exact ⟨by rw [gn_al]; omega, this.2⟩
/-- a new cell -/
theorem jR.new {D : va_G} {cs : JC} {b : Nat} {M : JM} {H H1 : Heap} (h : jR D cs b M H) (hz : H1.size = H.size + 1) (ho : ∀ q : Nat, q < H.size → H1[q]? = H[q]?) (hk : va_at D vwCl (b + gn M, ent b cs (al M) (gn M)) H1) : jR D cs b (al M) H1 := by
  refine ⟨by rw [hz, h.1, gn_al]; omega, fun i hi => ?_, jT_al h.2.2⟩
  rw [gn_al] at hi
  by_cases hik : i = gn M
  · rw [hik]; exact hk
  · rw [ent_same (M := M) (fun j => by rw [gi_al, if_neg hik]) (fun j => by rw [gr_al, if_neg hik])]
    exact (h.2.1 i (by omega)).kept (ho _ (by show b + i < H.size; rw [h.1]; omega))
theorem arrV_congr {cI : ClassId} {N : Nat} {f g : Nat → Value} (h : ∀ j, j < N → f j = g j) : arrV cI N f = arrV cI N g := by
  unfold arrV
  congr 2
  funext j
  exact h j.val j.isLt
def jKn (D : va_G) (cs : JC) (U : State) : Prop := va_K D vwCl (jtys cs) U ∧ va_Nw nw_X6_17 U ∧ va_Nw nw_X3_44 U ∧ va_AO RX1 U ∧ va_AO RX5 U
theorem jKn.warm {D : va_G} {cs : JC} {u U : State} (hW : u.WarmedH U.vm) (h : jKn D cs u) : jKn D cs U := ⟨va_K.moved hW.alike h.1, va_Nw.warmM hW h.2.1, va_Nw.warmM hW h.2.2.1, va_AO.moved hW.alike h.2.2.2.1, va_AO.moved hW.alike h.2.2.2.2⟩
theorem jKn.same {D : va_G} {cs : JC} {u U : State} (hv : u.vm = U.vm) (h : jKn D cs u) : jKn D cs U := ⟨va_K.moved (by rw [hv]; exact Vm.Alike.refl _) h.1, va_Nw.same rfl hv h.2.1, va_Nw.same rfl hv h.2.2.1, va_AO.moved (by rw [hv]; exact Vm.Alike.refl _) h.2.2.2.1, va_AO.moved (by rw [hv]; exact Vm.Alike.refl _) h.2.2.2.2⟩
end
section
/-! rows of the memory machine: AWO F .. says: if the program text F answers, the machine goes on to the end that the answer asks -/
def jX (p : Program) (c : Code) (cc : ByteArray) (nL : Nat) (s : State) (m : MethodId) (args : Array Value) (own : String) (D : va_G) (cs : JC) (b : Nat) (meth : Method) (H0 : Heap) : Prop :=
  p.tables.exec = Jvm.exec ∧ c.code = cc ∧ c.maxLocals = nL ∧ (∀ w ∈ GB, w.before args s = true) ∧ s.vm.findClass own = some m.cls ∧ jKn D cs s ∧ meth.locks = false ∧ b ≤ H0.size
def AWO {ρ : Type} (p : Program) (l : Launch) (e : Env) (R : Room) (s : State) (m : MethodId) (args : Array Value) (below : List Frame) (meth : Method) (c : Code) (D : va_G) (cs : JC) (b nL : Nat) (H0 : Heap) (Qf : ρ × JM → State → Prop) (F : Option (ρ × JM)) (M : JM) (ks sl : Nat) (lv : List (Nat × Value)) (pc : Nat) (st : List Value) : Prop :=
  ∀ res : ρ × JM, F = some res → ∀ (H : Heap) (locs : List Loc) (ls : Array Slot), jR D cs b M H → va_S (fun q => b ≤ q) H0 H locs → lv_has ls nL lv → W p l e R s m args below meth c H locs ks sl (Qf res) (F0 m pc ls st)
section ROWS
variable {ρ : Type} {p : Program} {l : Launch} {e : Env} {R : Room} {s : State} {m : MethodId} {args : Array Value} {below : List Frame} {meth : Method} {c : Code} {D : va_G} {cs : JC} {b nL : Nat} {H0 : Heap} {Qf : ρ × JM → State → Prop} {F : Option (ρ × JM)} {M : JM} {ks sl : Nat} {lv lv' : List (Nat × Value)} {pc : Nat} {st : List Value} {cc : ByteArray} {own : String}
theorem aw_none : AWO p l e R s m args below meth c D cs b nL H0 Qf none M ks sl lv pc st := fun r hr => by cases hr
theorem aw_sub {lv2 : List (Nat × Value)} (ks' : List Nat) (h : lv_pick lv ks' = lv2) (k : AWO p l e R s m args below meth c D cs b nL H0 Qf F M ks sl lv2 pc st) : AWO p l e R s m args below meth c D cs b nL H0 Qf F M ks sl lv pc st := fun r hr H L ls h1 h2 h3 => k r hr H L ls h1 h2 (lv_sub h3 ks' h)
theorem aw_iconst (X : jX p c cc nL s m args own D cs b meth H0) {n : Int} (v : Int32) (hdg : decode cc pc = .ok (.iconst n, 1)) (hv : Int32.ofInt n = v) (k : AWO p l e R s m args below meth c D cs b nL H0 Qf F M ks sl lv (pc + 1) (.int v :: st)) : AWO p l e R s m args below meth c D cs b nL H0 Qf F M ks sl lv pc (st) := fun r hr H L ls h1 h2 h3 => lv_iconst X.1 X.2.1 hdg hv (k r hr H L ls h1 h2 h3)
theorem aw_bipush (X : jX p c cc nL s m args own D cs b meth H0) {n : Int} (v : Int32) (hdg : decode cc pc = .ok (.bipush n, 2)) (hv : (Int8.ofInt n).toInt32 = v) (k : AWO p l e R s m args below meth c D cs b nL H0 Qf F M ks sl lv (pc + 2) (.int v :: st)) : AWO p l e R s m args below meth c D cs b nL H0 Qf F M ks sl lv pc (st) := fun r hr H L ls h1 h2 h3 => lv_bipush X.1 X.2.1 hdg hv (k r hr H L ls h1 h2 h3)
theorem aw_sipush (X : jX p c cc nL s m args own D cs b meth H0) {n : Int} (v : Int32) (hdg : decode cc pc = .ok (.sipush n, 3)) (hv : (Int16.ofInt n).toInt32 = v) (k : AWO p l e R s m args below meth c D cs b nL H0 Qf F M ks sl lv (pc + 3) (.int v :: st)) : AWO p l e R s m args below meth c D cs b nL H0 Qf F M ks sl lv pc (st) := fun r hr H L ls h1 h2 h3 => lv_sipush X.1 X.2.1 hdg hv (k r hr H L ls h1 h2 h3)
theorem aw_lconst (X : jX p c cc nL s m args own D cs b meth H0) {n : Fin 2} (v : Int64) (hdg : decode cc pc = .ok (.lconst n, 1)) (hv : Int64.ofNat (n : Nat) = v) (k : AWO p l e R s m args below meth c D cs b nL H0 Qf F M ks sl lv (pc + 1) (.long v :: st)) : AWO p l e R s m args below meth c D cs b nL H0 Qf F M ks sl lv pc (st) := fun r hr H L ls h1 h2 h3 => lv_lconst X.1 X.2.1 hdg hv (k r hr H L ls h1 h2 h3)
theorem aw_ldc (X : jX p c cc nL s m args own D cs b meth H0) {index : Nat} (v : Int32) (hdg : decode cc pc = .ok (.ldc index, 2)) (hw : Cond.constant own index v ∈ GB) (k : AWO p l e R s m args below meth c D cs b nL H0 Qf F M ks sl lv (pc + 2) (.int v :: st)) : AWO p l e R s m args below meth c D cs b nL H0 Qf F M ks sl lv pc (st) := fun r hr H L ls h1 h2 h3 => lv_ldc X.1 X.2.1 X.2.2.2.2.1 (X.2.2.2.1 _ hw) hdg (k r hr H L ls h1 h2 h3)
theorem aw_ldc2 (X : jX p c cc nL s m args own D cs b meth H0) {index : Nat} (v : Int64) (hdg : decode cc pc = .ok (.ldc2_w index, 3)) (hw : Cond.constantLong own index v ∈ GB) (k : AWO p l e R s m args below meth c D cs b nL H0 Qf F M ks sl lv (pc + 3) (.long v :: st)) : AWO p l e R s m args below meth c D cs b nL H0 Qf F M ks sl lv pc (st) := fun r hr H L ls h1 h2 h3 => W.ldc2 X.1 X.2.1 X.2.2.2.2.1 (X.2.2.2.1 _ hw) rfl hdg (k r hr H L ls h1 h2 h3)
theorem aw_null (X : jX p c cc nL s m args own D cs b meth H0) (hdg : decode cc pc = .ok (.aconst_null, 1)) (k : AWO p l e R s m args below meth c D cs b nL H0 Qf F M ks sl lv (pc + 1) (.null :: st)) : AWO p l e R s m args below meth c D cs b nL H0 Qf F M ks sl lv pc (st) := fun r hr H L ls h1 h2 h3 => lv_null X.1 X.2.1 hdg (k r hr H L ls h1 h2 h3)
theorem aw_iload_n (X : jX p c cc nL s m args own D cs b meth H0) (k0 : Nat) {kf : Fin 4} {x : Int32} (hdg : decode cc pc = .ok (.iload_n kf, 1)) (hl : lv[k0]? = some ((kf : Nat), .int x)) (k : AWO p l e R s m args below meth c D cs b nL H0 Qf F M ks sl lv (pc + 1) (.int x :: st)) : AWO p l e R s m args below meth c D cs b nL H0 Qf F M ks sl lv pc (st) := fun r hr H L ls h1 h2 h3 => lv_iload_n X.1 X.2.1 hdg rfl (lv_at h3 k0 hl) (k r hr H L ls h1 h2 h3)
theorem aw_iload (X : jX p c cc nL s m args own D cs b meth H0) (k0 : Nat) {i : Nat} {x : Int32} (hdg : decode cc pc = .ok (.iload i, 2)) (hl : lv[k0]? = some (i, .int x)) (k : AWO p l e R s m args below meth c D cs b nL H0 Qf F M ks sl lv (pc + 2) (.int x :: st)) : AWO p l e R s m args below meth c D cs b nL H0 Qf F M ks sl lv pc (st) := fun r hr H L ls h1 h2 h3 => lv_iload X.1 X.2.1 hdg (lv_at h3 k0 hl) (k r hr H L ls h1 h2 h3)
theorem aw_lload_n (X : jX p c cc nL s m args own D cs b meth H0) (k0 : Nat) {kf : Fin 4} {x : Int64} (hdg : decode cc pc = .ok (.lload_n kf, 1)) (hl : lv[k0]? = some ((kf : Nat), .long x)) (k : AWO p l e R s m args below meth c D cs b nL H0 Qf F M ks sl lv (pc + 1) (.long x :: st)) : AWO p l e R s m args below meth c D cs b nL H0 Qf F M ks sl lv pc (st) := fun r hr H L ls h1 h2 h3 => lv_lload_n X.1 X.2.1 hdg rfl (lv_at h3 k0 hl) (k r hr H L ls h1 h2 h3)
theorem aw_lload (X : jX p c cc nL s m args own D cs b meth H0) (k0 : Nat) {i : Nat} {x : Int64} (hdg : decode cc pc = .ok (.lload i, 2)) (hl : lv[k0]? = some (i, .long x)) (k : AWO p l e R s m args below meth c D cs b nL H0 Qf F M ks sl lv (pc + 2) (.long x :: st)) : AWO p l e R s m args below meth c D cs b nL H0 Qf F M ks sl lv pc (st) := fun r hr H L ls h1 h2 h3 => lv_lload X.1 X.2.1 hdg (lv_at h3 k0 hl) (k r hr H L ls h1 h2 h3)
theorem aw_aload_n (X : jX p c cc nL s m args own D cs b meth H0) (k0 : Nat) {kf : Fin 4} {x : Nat} (hdg : decode cc pc = .ok (.aload_n kf, 1)) (hl : lv[k0]? = some ((kf : Nat), .ref x)) (k : AWO p l e R s m args below meth c D cs b nL H0 Qf F M ks sl lv (pc + 1) (.ref x :: st)) : AWO p l e R s m args below meth c D cs b nL H0 Qf F M ks sl lv pc (st) := fun r hr H L ls h1 h2 h3 => lv_aload_n X.1 X.2.1 hdg rfl (lv_at h3 k0 hl) (k r hr H L ls h1 h2 h3)
theorem aw_aload (X : jX p c cc nL s m args own D cs b meth H0) (k0 : Nat) {i : Nat} {x : Nat} (hdg : decode cc pc = .ok (.aload i, 2)) (hl : lv[k0]? = some (i, .ref x)) (k : AWO p l e R s m args below meth c D cs b nL H0 Qf F M ks sl lv (pc + 2) (.ref x :: st)) : AWO p l e R s m args below meth c D cs b nL H0 Qf F M ks sl lv pc (st) := fun r hr H L ls h1 h2 h3 => lv_aload X.1 X.2.1 hdg (lv_at h3 k0 hl) (k r hr H L ls h1 h2 h3)
theorem aw_istore_n (X : jX p c cc nL s m args own D cs b meth H0) (lv2 : List (Nat × Value)) {kf : Fin 4} {x : Int32} (hdg : decode cc pc = .ok (.istore_n kf, 1)) (hn : (kf : Nat) < nL) (hl : ((kf : Nat), Value.int x) :: lv.filter (fun q => !(q.1 == (kf : Nat)) && !(q.1 + 1 == (kf : Nat) && q.2.category == 2)) = lv2) (k : AWO p l e R s m args below meth c D cs b nL H0 Qf F M ks sl lv2 (pc + 1) st) : AWO p l e R s m args below meth c D cs b nL H0 Qf F M ks sl lv pc (.int x :: st) := fun r hr H L ls h1 h2 h3 => lv_istore_n X.1 X.2.1 hdg rfl h3 hn hl (fun ls2 h4 => k r hr H L ls2 h1 h2 h4)
theorem aw_istore (X : jX p c cc nL s m args own D cs b meth H0) (lv2 : List (Nat × Value)) {i : Nat} {x : Int32} (hdg : decode cc pc = .ok (.istore i, 2)) (hn : i < nL) (hl : (i, Value.int x) :: lv.filter (fun q => !(q.1 == i) && !(q.1 + 1 == i && q.2.category == 2)) = lv2) (k : AWO p l e R s m args below meth c D cs b nL H0 Qf F M ks sl lv2 (pc + 2) st) : AWO p l e R s m args below meth c D cs b nL H0 Qf F M ks sl lv pc (.int x :: st) := fun r hr H L ls h1 h2 h3 => lv_istore X.1 X.2.1 hdg h3 hn hl (fun ls2 h4 => k r hr H L ls2 h1 h2 h4)
theorem aw_astore_n (X : jX p c cc nL s m args own D cs b meth H0) (lv2 : List (Nat × Value)) {kf : Fin 4} {x : Nat} (hdg : decode cc pc = .ok (.astore_n kf, 1)) (hn : (kf : Nat) < nL) (hl : ((kf : Nat), Value.ref x) :: lv.filter (fun q => !(q.1 == (kf : Nat)) && !(q.1 + 1 == (kf : Nat) && q.2.category == 2)) = lv2) (k : AWO p l e R s m args below meth c D cs b nL H0 Qf F M ks sl lv2 (pc + 1) st) : AWO p l e R s m args below meth c D cs b nL H0 Qf F M ks sl lv pc (.ref x :: st) := fun r hr H L ls h1 h2 h3 => lv_astore_n X.1 X.2.1 hdg rfl h3 hn hl (fun ls2 h4 => k r hr H L ls2 h1 h2 h4)
theorem aw_astore (X : jX p c cc nL s m args own D cs b meth H0) (lv2 : List (Nat × Value)) {i : Nat} {x : Nat} (hdg : decode cc pc = .ok (.astore i, 2)) (hn : i < nL) (hl : (i, Value.ref x) :: lv.filter (fun q => !(q.1 == i) && !(q.1 + 1 == i && q.2.category == 2)) = lv2) (k : AWO p l e R s m args below meth c D cs b nL H0 Qf F M ks sl lv2 (pc + 2) st) : AWO p l e R s m args below meth c D cs b nL H0 Qf F M ks sl lv pc (.ref x :: st) := fun r hr H L ls h1 h2 h3 => lv_astore X.1 X.2.1 hdg h3 hn hl (fun ls2 h4 => k r hr H L ls2 h1 h2 h4)
theorem aw_lstore_n (X : jX p c cc nL s m args own D cs b meth H0) (lv2 : List (Nat × Value)) {kf : Fin 4} {x : Int64} (hdg : decode cc pc = .ok (.lstore_n kf, 1)) (hn : (kf : Nat) + 1 < nL) (hl : ((kf : Nat), Value.long x) :: lv.filter (fun q => !(q.1 == (kf : Nat)) && (!(q.1 == (kf : Nat) + 1) && !(q.1 + 1 == (kf : Nat) && q.2.category == 2))) = lv2) (k : AWO p l e R s m args below meth c D cs b nL H0 Qf F M ks sl lv2 (pc + 1) st) : AWO p l e R s m args below meth c D cs b nL H0 Qf F M ks sl lv pc (.long x :: st) := fun r hr H L ls h1 h2 h3 => lv_lstore_n X.1 X.2.1 hdg rfl h3 hn hl (fun ls2 h4 => k r hr H L ls2 h1 h2 h4)
theorem aw_lstore (X : jX p c cc nL s m args own D cs b meth H0) (lv2 : List (Nat × Value)) {i : Nat} {x : Int64} (hdg : decode cc pc = .ok (.lstore i, 2)) (hn : i + 1 < nL) (hl : (i, Value.long x) :: lv.filter (fun q => !(q.1 == i) && (!(q.1 == i + 1) && !(q.1 + 1 == i && q.2.category == 2))) = lv2) (k : AWO p l e R s m args below meth c D cs b nL H0 Qf F M ks sl lv2 (pc + 2) st) : AWO p l e R s m args below meth c D cs b nL H0 Qf F M ks sl lv pc (.long x :: st) := fun r hr H L ls h1 h2 h3 => lv_lstore X.1 X.2.1 hdg h3 hn hl (fun ls2 h4 => k r hr H L ls2 h1 h2 h4)
theorem aw_iinc (X : jX p c cc nL s m args own D cs b meth H0) (lv2 : List (Nat × Value)) (k0 : Nat) {i : Nat} {n : Int} {x : Int32} (v : Int32) (hdg : decode cc pc = .ok (.iinc i n, 3)) (hk : lv[k0]? = some (i, .int x)) (hv : x + Int32.ofInt n = v) (hn : i < nL) (hl : (i, Value.int v) :: lv.filter (fun q => !(q.1 == i) && !(q.1 + 1 == i && q.2.category == 2)) = lv2) (k : AWO p l e R s m args below meth c D cs b nL H0 Qf F M ks sl lv2 (pc + 3) st) : AWO p l e R s m args below meth c D cs b nL H0 Qf F M ks sl lv pc st := fun r hr H L ls h1 h2 h3 => lv_iinc X.1 X.2.1 hdg h3 hk hv hn hl (fun ls2 h4 => k r hr H L ls2 h1 h2 h4)
theorem aw_iadd (X : jX p c cc nL s m args own D cs b meth H0) {x y : Int32} (hdg : decode cc pc = .ok (.iadd, 1)) (k : AWO p l e R s m args below meth c D cs b nL H0 Qf F M ks sl lv (pc + 1) (.int (x + y) :: st)) : AWO p l e R s m args below meth c D cs b nL H0 Qf F M ks sl lv pc (.int y :: .int x :: st) := fun r hr H L ls h1 h2 h3 => lv_iadd X.1 X.2.1 hdg (k r hr H L ls h1 h2 h3)
theorem aw_isub (X : jX p c cc nL s m args own D cs b meth H0) {x y : Int32} (hdg : decode cc pc = .ok (.isub, 1)) (k : AWO p l e R s m args below meth c D cs b nL H0 Qf F M ks sl lv (pc + 1) (.int (x - y) :: st)) : AWO p l e R s m args below meth c D cs b nL H0 Qf F M ks sl lv pc (.int y :: .int x :: st) := fun r hr H L ls h1 h2 h3 => lv_isub X.1 X.2.1 hdg (k r hr H L ls h1 h2 h3)
theorem aw_imul (X : jX p c cc nL s m args own D cs b meth H0) {x y : Int32} (hdg : decode cc pc = .ok (.imul, 1)) (k : AWO p l e R s m args below meth c D cs b nL H0 Qf F M ks sl lv (pc + 1) (.int (x * y) :: st)) : AWO p l e R s m args below meth c D cs b nL H0 Qf F M ks sl lv pc (.int y :: .int x :: st) := fun r hr H L ls h1 h2 h3 => lv_imul X.1 X.2.1 hdg (k r hr H L ls h1 h2 h3)
theorem aw_iand (X : jX p c cc nL s m args own D cs b meth H0) {x y : Int32} (hdg : decode cc pc = .ok (.iand, 1)) (k : AWO p l e R s m args below meth c D cs b nL H0 Qf F M ks sl lv (pc + 1) (.int (x &&& y) :: st)) : AWO p l e R s m args below meth c D cs b nL H0 Qf F M ks sl lv pc (.int y :: .int x :: st) := fun r hr H L ls h1 h2 h3 => lv_iand X.1 X.2.1 hdg (k r hr H L ls h1 h2 h3)
theorem aw_ior (X : jX p c cc nL s m args own D cs b meth H0) {x y : Int32} (hdg : decode cc pc = .ok (.ior, 1)) (k : AWO p l e R s m args below meth c D cs b nL H0 Qf F M ks sl lv (pc + 1) (.int (x ||| y) :: st)) : AWO p l e R s m args below meth c D cs b nL H0 Qf F M ks sl lv pc (.int y :: .int x :: st) := fun r hr H L ls h1 h2 h3 => lv_ior X.1 X.2.1 hdg (k r hr H L ls h1 h2 h3)
theorem aw_ishl (X : jX p c cc nL s m args own D cs b meth H0) {x y : Int32} (hdg : decode cc pc = .ok (.ishl, 1)) (k : AWO p l e R s m args below meth c D cs b nL H0 Qf F M ks sl lv (pc + 1) (.int (x <<< (y &&& 31)) :: st)) : AWO p l e R s m args below meth c D cs b nL H0 Qf F M ks sl lv pc (.int y :: .int x :: st) := fun r hr H L ls h1 h2 h3 => lv_ishl X.1 X.2.1 hdg (k r hr H L ls h1 h2 h3)
theorem aw_ishr (X : jX p c cc nL s m args own D cs b meth H0) {x y : Int32} (hdg : decode cc pc = .ok (.ishr, 1)) (k : AWO p l e R s m args below meth c D cs b nL H0 Qf F M ks sl lv (pc + 1) (.int (x >>> (y &&& 31)) :: st)) : AWO p l e R s m args below meth c D cs b nL H0 Qf F M ks sl lv pc (.int y :: .int x :: st) := fun r hr H L ls h1 h2 h3 => lv_ishr X.1 X.2.1 hdg (k r hr H L ls h1 h2 h3)
theorem aw_lor (X : jX p c cc nL s m args own D cs b meth H0) {x y : Int64} (hdg : decode cc pc = .ok (.lor, 1)) (k : AWO p l e R s m args below meth c D cs b nL H0 Qf F M ks sl lv (pc + 1) (.long (x ||| y) :: st)) : AWO p l e R s m args below meth c D cs b nL H0 Qf F M ks sl lv pc (.long y :: .long x :: st) := fun r hr H L ls h1 h2 h3 => lv_lor X.1 X.2.1 hdg (k r hr H L ls h1 h2 h3)
theorem aw_land (X : jX p c cc nL s m args own D cs b meth H0) {x y : Int64} (hdg : decode cc pc = .ok (.land, 1)) (k : AWO p l e R s m args below meth c D cs b nL H0 Qf F M ks sl lv (pc + 1) (.long (x &&& y) :: st)) : AWO p l e R s m args below meth c D cs b nL H0 Qf F M ks sl lv pc (.long y :: .long x :: st) := fun r hr H L ls h1 h2 h3 => lv_land X.1 X.2.1 hdg (k r hr H L ls h1 h2 h3)
theorem aw_lshl (X : jX p c cc nL s m args own D cs b meth H0) {x : Int64} {y : Int32} (hdg : decode cc pc = .ok (.lshl, 1)) (k : AWO p l e R s m args below meth c D cs b nL H0 Qf F M ks sl lv (pc + 1) (.long (x <<< (y.toInt64 &&& 63)) :: st)) : AWO p l e R s m args below meth c D cs b nL H0 Qf F M ks sl lv pc (.int y :: .long x :: st) := fun r hr H L ls h1 h2 h3 => lv_lshl X.1 X.2.1 hdg rfl (k r hr H L ls h1 h2 h3)
theorem aw_lshr (X : jX p c cc nL s m args own D cs b meth H0) {x : Int64} {y : Int32} (hdg : decode cc pc = .ok (.lshr, 1)) (k : AWO p l e R s m args below meth c D cs b nL H0 Qf F M ks sl lv (pc + 1) (.long (x >>> (y.toInt64 &&& 63)) :: st)) : AWO p l e R s m args below meth c D cs b nL H0 Qf F M ks sl lv pc (.int y :: .long x :: st) := fun r hr H L ls h1 h2 h3 => lv_lshr X.1 X.2.1 hdg rfl (k r hr H L ls h1 h2 h3)
theorem aw_lcmp (X : jX p c cc nL s m args own D cs b meth H0) {x y : Int64} (hdg : decode cc pc = .ok (.lcmp, 1)) (k : AWO p l e R s m args below meth c D cs b nL H0 Qf F M ks sl lv (pc + 1) (.int (lg_cmp x y) :: st)) : AWO p l e R s m args below meth c D cs b nL H0 Qf F M ks sl lv pc (.long y :: .long x :: st) := fun r hr H L ls h1 h2 h3 => W.lcmp X.1 X.2.1 hdg (k r hr H L ls h1 h2 h3)
theorem aw_i2l (X : jX p c cc nL s m args own D cs b meth H0) {x : Int32} (hdg : decode cc pc = .ok (.i2l, 1)) (k : AWO p l e R s m args below meth c D cs b nL H0 Qf F M ks sl lv (pc + 1) (.long x.toInt64 :: st)) : AWO p l e R s m args below meth c D cs b nL H0 Qf F M ks sl lv pc (.int x :: st) := fun r hr H L ls h1 h2 h3 => lv_i2l X.1 X.2.1 hdg rfl (k r hr H L ls h1 h2 h3)
theorem aw_l2i (X : jX p c cc nL s m args own D cs b meth H0) {x : Int64} (hdg : decode cc pc = .ok (.l2i, 1)) (k : AWO p l e R s m args below meth c D cs b nL H0 Qf F M ks sl lv (pc + 1) (.int x.toInt32 :: st)) : AWO p l e R s m args below meth c D cs b nL H0 Qf F M ks sl lv pc (.long x :: st) := fun r hr H L ls h1 h2 h3 => lv_l2i X.1 X.2.1 hdg rfl (k r hr H L ls h1 h2 h3)
theorem aw_i2s (X : jX p c cc nL s m args own D cs b meth H0) {x : Int32} (hdg : decode cc pc = .ok (.i2s, 1)) (k : AWO p l e R s m args below meth c D cs b nL H0 Qf F M ks sl lv (pc + 1) (.int x.toInt16.toInt32 :: st)) : AWO p l e R s m args below meth c D cs b nL H0 Qf F M ks sl lv pc (.int x :: st) := fun r hr H L ls h1 h2 h3 => lv_i2s X.1 X.2.1 hdg rfl (k r hr H L ls h1 h2 h3)
theorem aw_idiv (X : jX p c cc nL s m args own D cs b meth H0) {x y : Int32} (hdg : decode cc pc = .ok (.idiv, 1)) (k : AWO p l e R s m args below meth c D cs b nL H0 Qf F M ks sl lv (pc + 1) (.int (x / y) :: st)) : AWO p l e R s m args below meth c D cs b nL H0 Qf (if y = 0 then none else F) M ks sl lv pc (.int y :: .int x :: st) := fun r hr H L ls h1 h2 h3 => by
  by_cases h0 : y = 0
  · rw [if_pos h0] at hr; cases hr
  · rw [if_neg h0] at hr
    exact lv_idiv X.1 X.2.1 hdg h0 (k r hr H L ls h1 h2 h3)
theorem aw_idivK (X : jX p c cc nL s m args own D cs b meth H0) {x y : Int32} (hdg : decode cc pc = .ok (.idiv, 1)) (h0 : ¬ y = 0) (k : AWO p l e R s m args below meth c D cs b nL H0 Qf F M ks sl lv (pc + 1) (.int (x / y) :: st)) : AWO p l e R s m args below meth c D cs b nL H0 Qf F M ks sl lv pc (.int y :: .int x :: st) := fun r hr H L ls h1 h2 h3 => lv_idiv X.1 X.2.1 hdg h0 (k r hr H L ls h1 h2 h3)
theorem aw_irem (X : jX p c cc nL s m args own D cs b meth H0) {x y : Int32} (hdg : decode cc pc = .ok (.irem, 1)) (k : AWO p l e R s m args below meth c D cs b nL H0 Qf F M ks sl lv (pc + 1) (.int (x - x / y * y) :: st)) : AWO p l e R s m args below meth c D cs b nL H0 Qf (if y = 0 then none else F) M ks sl lv pc (.int y :: .int x :: st) := fun r hr H L ls h1 h2 h3 => by
  by_cases h0 : y = 0
  · rw [if_pos h0] at hr; cases hr
  · rw [if_neg h0] at hr
    exact lv_irem X.1 X.2.1 hdg h0 (k r hr H L ls h1 h2 h3)
theorem aw_iremK (X : jX p c cc nL s m args own D cs b meth H0) {x y : Int32} (hdg : decode cc pc = .ok (.irem, 1)) (h0 : ¬ y = 0) (k : AWO p l e R s m args below meth c D cs b nL H0 Qf F M ks sl lv (pc + 1) (.int (x - x / y * y) :: st)) : AWO p l e R s m args below meth c D cs b nL H0 Qf F M ks sl lv pc (.int y :: .int x :: st) := fun r hr H L ls h1 h2 h3 => lv_irem X.1 X.2.1 hdg h0 (k r hr H L ls h1 h2 h3)
theorem aw_dup_i (X : jX p c cc nL s m args own D cs b meth H0) {x : Int32} (hdg : decode cc pc = .ok (.dup, 1)) (k : AWO p l e R s m args below meth c D cs b nL H0 Qf F M ks sl lv (pc + 1) (.int x :: .int x :: st)) : AWO p l e R s m args below meth c D cs b nL H0 Qf F M ks sl lv pc (.int x :: st) := fun r hr H L ls h1 h2 h3 => lv_dup X.1 X.2.1 hdg rfl (k r hr H L ls h1 h2 h3)
theorem aw_dup_a (X : jX p c cc nL s m args own D cs b meth H0) {x : Nat} (hdg : decode cc pc = .ok (.dup, 1)) (k : AWO p l e R s m args below meth c D cs b nL H0 Qf F M ks sl lv (pc + 1) (.ref x :: .ref x :: st)) : AWO p l e R s m args below meth c D cs b nL H0 Qf F M ks sl lv pc (.ref x :: st) := fun r hr H L ls h1 h2 h3 => lv_dup X.1 X.2.1 hdg rfl (k r hr H L ls h1 h2 h3)
theorem aw_dup2_ia (X : jX p c cc nL s m args own D cs b meth H0) {x : Int32} {y : Nat} (hdg : decode cc pc = .ok (.dup2, 1)) (k : AWO p l e R s m args below meth c D cs b nL H0 Qf F M ks sl lv (pc + 1) (.int x :: .ref y :: .int x :: .ref y :: st)) : AWO p l e R s m args below meth c D cs b nL H0 Qf F M ks sl lv pc (.int x :: .ref y :: st) := fun r hr H L ls h1 h2 h3 => lv_dup2_11 X.1 X.2.1 hdg rfl rfl (k r hr H L ls h1 h2 h3)
theorem aw_goto (X : jX p c cc nL s m args own D cs b meth H0) {off : Int} (tgt : Nat) (hdg : decode cc pc = .ok (.goto off, 3)) (ht : (pc : Int) + off = (tgt : Int)) (k : AWO p l e R s m args below meth c D cs b nL H0 Qf F M ks sl lv tgt st) : AWO p l e R s m args below meth c D cs b nL H0 Qf F M ks sl lv pc st := fun r hr H L ls h1 h2 h3 => lv_goto X.1 X.2.1 hdg ht (k r hr H L ls h1 h2 h3)
variable {F1 F2 : Option (ρ × JM)}
theorem aw_icmplt (X : jX p c cc nL s m args own D cs b meth H0) {x y : Int32} {off : Int} (tgt : Nat) (hdg : decode cc pc = .ok (.if_icmp .lt off, 3)) (ht : (pc : Int) + off = (tgt : Int)) (kt : AWO p l e R s m args below meth c D cs b nL H0 Qf F1 M ks sl lv tgt st) (kf : AWO p l e R s m args below meth c D cs b nL H0 Qf F2 M ks sl lv (pc + 3) st) : AWO p l e R s m args below meth c D cs b nL H0 Qf (if x < y then F1 else F2) M ks sl lv pc (.int y :: .int x :: st) := fun r hr H L ls h1 h2 h3 => lv_icmp_lt X.1 X.2.1 hdg ht (fun cnd => kt r (by rw [← hr, if_pos (cnd)]) H L ls h1 h2 h3) (fun cnd => kf r (by rw [← hr, if_neg (cnd)]) H L ls h1 h2 h3)
theorem aw_icmpge (X : jX p c cc nL s m args own D cs b meth H0) {x y : Int32} {off : Int} (tgt : Nat) (hdg : decode cc pc = .ok (.if_icmp .ge off, 3)) (ht : (pc : Int) + off = (tgt : Int)) (kt : AWO p l e R s m args below meth c D cs b nL H0 Qf F1 M ks sl lv (pc + 3) st) (kf : AWO p l e R s m args below meth c D cs b nL H0 Qf F2 M ks sl lv tgt st) : AWO p l e R s m args below meth c D cs b nL H0 Qf (if x < y then F1 else F2) M ks sl lv pc (.int y :: .int x :: st) := fun r hr H L ls h1 h2 h3 => lv_icmp_ge X.1 X.2.1 hdg ht (fun cnd => kf r (by rw [← hr, if_neg (Int32.not_lt.mpr cnd)]) H L ls h1 h2 h3) (fun cnd => kt r (by rw [← hr, if_pos (Int32.not_le.mp cnd)]) H L ls h1 h2 h3)
theorem aw_icmpgt (X : jX p c cc nL s m args own D cs b meth H0) {x y : Int32} {off : Int} (tgt : Nat) (hdg : decode cc pc = .ok (.if_icmp .gt off, 3)) (ht : (pc : Int) + off = (tgt : Int)) (kt : AWO p l e R s m args below meth c D cs b nL H0 Qf F1 M ks sl lv tgt st) (kf : AWO p l e R s m args below meth c D cs b nL H0 Qf F2 M ks sl lv (pc + 3) st) : AWO p l e R s m args below meth c D cs b nL H0 Qf (if y < x then F1 else F2) M ks sl lv pc (.int y :: .int x :: st) := fun r hr H L ls h1 h2 h3 => lv_icmp_gt X.1 X.2.1 hdg ht (fun cnd => kt r (by rw [← hr, if_pos (cnd)]) H L ls h1 h2 h3) (fun cnd => kf r (by rw [← hr, if_neg (cnd)]) H L ls h1 h2 h3)
theorem aw_icmple (X : jX p c cc nL s m args own D cs b meth H0) {x y : Int32} {off : Int} (tgt : Nat) (hdg : decode cc pc = .ok (.if_icmp .le off, 3)) (ht : (pc : Int) + off = (tgt : Int)) (kt : AWO p l e R s m args below meth c D cs b nL H0 Qf F1 M ks sl lv (pc + 3) st) (kf : AWO p l e R s m args below meth c D cs b nL H0 Qf F2 M ks sl lv tgt st) : AWO p l e R s m args below meth c D cs b nL H0 Qf (if y < x then F1 else F2) M ks sl lv pc (.int y :: .int x :: st) := fun r hr H L ls h1 h2 h3 => lv_icmp_le X.1 X.2.1 hdg ht (fun cnd => kf r (by rw [← hr, if_neg (Int32.not_lt.mpr cnd)]) H L ls h1 h2 h3) (fun cnd => kt r (by rw [← hr, if_pos (Int32.not_le.mp cnd)]) H L ls h1 h2 h3)
theorem aw_icmpeq (X : jX p c cc nL s m args own D cs b meth H0) {x y : Int32} {off : Int} (tgt : Nat) (hdg : decode cc pc = .ok (.if_icmp .eq off, 3)) (ht : (pc : Int) + off = (tgt : Int)) (kt : AWO p l e R s m args below meth c D cs b nL H0 Qf F1 M ks sl lv tgt st) (kf : AWO p l e R s m args below meth c D cs b nL H0 Qf F2 M ks sl lv (pc + 3) st) : AWO p l e R s m args below meth c D cs b nL H0 Qf (if x = y then F1 else F2) M ks sl lv pc (.int y :: .int x :: st) := fun r hr H L ls h1 h2 h3 => lv_icmp_eq X.1 X.2.1 hdg ht (fun cnd => kt r (by rw [← hr, if_pos (cnd)]) H L ls h1 h2 h3) (fun cnd => kf r (by rw [← hr, if_neg (cnd)]) H L ls h1 h2 h3)
theorem aw_icmpne (X : jX p c cc nL s m args own D cs b meth H0) {x y : Int32} {off : Int} (tgt : Nat) (hdg : decode cc pc = .ok (.if_icmp .ne off, 3)) (ht : (pc : Int) + off = (tgt : Int)) (kt : AWO p l e R s m args below meth c D cs b nL H0 Qf F1 M ks sl lv (pc + 3) st) (kf : AWO p l e R s m args below meth c D cs b nL H0 Qf F2 M ks sl lv tgt st) : AWO p l e R s m args below meth c D cs b nL H0 Qf (if x = y then F1 else F2) M ks sl lv pc (.int y :: .int x :: st) := fun r hr H L ls h1 h2 h3 => lv_icmp_ne X.1 X.2.1 hdg ht (fun cnd => kf r (by rw [← hr, if_neg (cnd)]) H L ls h1 h2 h3) (fun cnd => kt r (by rw [← hr, if_pos (cnd)]) H L ls h1 h2 h3)
theorem aw_iflt (X : jX p c cc nL s m args own D cs b meth H0) {x : Int32} {off : Int} (tgt : Nat) (hdg : decode cc pc = .ok (.ifCond .lt off, 3)) (ht : (pc : Int) + off = (tgt : Int)) (kt : AWO p l e R s m args below meth c D cs b nL H0 Qf F1 M ks sl lv tgt st) (kf : AWO p l e R s m args below meth c D cs b nL H0 Qf F2 M ks sl lv (pc + 3) st) : AWO p l e R s m args below meth c D cs b nL H0 Qf (if x < 0 then F1 else F2) M ks sl lv pc (.int x :: st) := fun r hr H L ls h1 h2 h3 => lv_if_lt X.1 X.2.1 hdg ht (fun cnd => kt r (by rw [← hr, if_pos (cnd)]) H L ls h1 h2 h3) (fun cnd => kf r (by rw [← hr, if_neg (cnd)]) H L ls h1 h2 h3)
theorem aw_ifge (X : jX p c cc nL s m args own D cs b meth H0) {x : Int32} {off : Int} (tgt : Nat) (hdg : decode cc pc = .ok (.ifCond .ge off, 3)) (ht : (pc : Int) + off = (tgt : Int)) (kt : AWO p l e R s m args below meth c D cs b nL H0 Qf F1 M ks sl lv (pc + 3) st) (kf : AWO p l e R s m args below meth c D cs b nL H0 Qf F2 M ks sl lv tgt st) : AWO p l e R s m args below meth c D cs b nL H0 Qf (if x < 0 then F1 else F2) M ks sl lv pc (.int x :: st) := fun r hr H L ls h1 h2 h3 => lv_if_ge X.1 X.2.1 hdg ht (fun cnd => kf r (by rw [← hr, if_neg (Int32.not_lt.mpr cnd)]) H L ls h1 h2 h3) (fun cnd => kt r (by rw [← hr, if_pos (Int32.not_le.mp cnd)]) H L ls h1 h2 h3)
theorem aw_ifgt (X : jX p c cc nL s m args own D cs b meth H0) {x : Int32} {off : Int} (tgt : Nat) (hdg : decode cc pc = .ok (.ifCond .gt off, 3)) (ht : (pc : Int) + off = (tgt : Int)) (kt : AWO p l e R s m args below meth c D cs b nL H0 Qf F1 M ks sl lv tgt st) (kf : AWO p l e R s m args below meth c D cs b nL H0 Qf F2 M ks sl lv (pc + 3) st) : AWO p l e R s m args below meth c D cs b nL H0 Qf (if 0 < x then F1 else F2) M ks sl lv pc (.int x :: st) := fun r hr H L ls h1 h2 h3 => lv_if_gt X.1 X.2.1 hdg ht (fun cnd => kt r (by rw [← hr, if_pos (cnd)]) H L ls h1 h2 h3) (fun cnd => kf r (by rw [← hr, if_neg (cnd)]) H L ls h1 h2 h3)
theorem aw_ifle (X : jX p c cc nL s m args own D cs b meth H0) {x : Int32} {off : Int} (tgt : Nat) (hdg : decode cc pc = .ok (.ifCond .le off, 3)) (ht : (pc : Int) + off = (tgt : Int)) (kt : AWO p l e R s m args below meth c D cs b nL H0 Qf F1 M ks sl lv (pc + 3) st) (kf : AWO p l e R s m args below meth c D cs b nL H0 Qf F2 M ks sl lv tgt st) : AWO p l e R s m args below meth c D cs b nL H0 Qf (if 0 < x then F1 else F2) M ks sl lv pc (.int x :: st) := fun r hr H L ls h1 h2 h3 => lv_if_le X.1 X.2.1 hdg ht (fun cnd => kf r (by rw [← hr, if_neg (Int32.not_lt.mpr cnd)]) H L ls h1 h2 h3) (fun cnd => kt r (by rw [← hr, if_pos (Int32.not_le.mp cnd)]) H L ls h1 h2 h3)
theorem aw_ifeq (X : jX p c cc nL s m args own D cs b meth H0) {x : Int32} {off : Int} (tgt : Nat) (hdg : decode cc pc = .ok (.ifCond .eq off, 3)) (ht : (pc : Int) + off = (tgt : Int)) (kt : AWO p l e R s m args below meth c D cs b nL H0 Qf F1 M ks sl lv tgt st) (kf : AWO p l e R s m args below meth c D cs b nL H0 Qf F2 M ks sl lv (pc + 3) st) : AWO p l e R s m args below meth c D cs b nL H0 Qf (if x = 0 then F1 else F2) M ks sl lv pc (.int x :: st) := fun r hr H L ls h1 h2 h3 => lv_if_eq X.1 X.2.1 hdg ht (fun cnd => kt r (by rw [← hr, if_pos (cnd)]) H L ls h1 h2 h3) (fun cnd => kf r (by rw [← hr, if_neg (cnd)]) H L ls h1 h2 h3)
theorem aw_ifne (X : jX p c cc nL s m args own D cs b meth H0) {x : Int32} {off : Int} (tgt : Nat) (hdg : decode cc pc = .ok (.ifCond .ne off, 3)) (ht : (pc : Int) + off = (tgt : Int)) (kt : AWO p l e R s m args below meth c D cs b nL H0 Qf F1 M ks sl lv (pc + 3) st) (kf : AWO p l e R s m args below meth c D cs b nL H0 Qf F2 M ks sl lv tgt st) : AWO p l e R s m args below meth c D cs b nL H0 Qf (if x = 0 then F1 else F2) M ks sl lv pc (.int x :: st) := fun r hr H L ls h1 h2 h3 => lv_if_ne X.1 X.2.1 hdg ht (fun cnd => kf r (by rw [← hr, if_neg (cnd)]) H L ls h1 h2 h3) (fun cnd => kt r (by rw [← hr, if_pos (cnd)]) H L ls h1 h2 h3)
theorem aw_ifeqB (X : jX p c cc nL s m args own D cs b meth H0) {bb : Bool} {off : Int} (tgt : Nat) (hdg : decode cc pc = .ok (.ifCond .eq off, 3)) (ht : (pc : Int) + off = (tgt : Int)) (kt : AWO p l e R s m args below meth c D cs b nL H0 Qf F1 M ks sl lv (pc + 3) st) (kf : AWO p l e R s m args below meth c D cs b nL H0 Qf F2 M ks sl lv tgt st) : AWO p l e R s m args below meth c D cs b nL H0 Qf (if bb = true then F1 else F2) M ks sl lv pc (.int (bI bb) :: st) := fun r hr H L ls h1 h2 h3 => lv_if_eq X.1 X.2.1 hdg ht (fun cnd => kf r (by rw [← hr, if_neg (by intro h; rw [h] at cnd; exact absurd cnd (by decide))]) H L ls h1 h2 h3) (fun cnd => kt r (by rw [← hr, if_pos (by cases bb with | true => rfl | false => exact absurd rfl cnd)]) H L ls h1 h2 h3)
theorem aw_ifneB (X : jX p c cc nL s m args own D cs b meth H0) {bb : Bool} {off : Int} (tgt : Nat) (hdg : decode cc pc = .ok (.ifCond .ne off, 3)) (ht : (pc : Int) + off = (tgt : Int)) (kt : AWO p l e R s m args below meth c D cs b nL H0 Qf F1 M ks sl lv tgt st) (kf : AWO p l e R s m args below meth c D cs b nL H0 Qf F2 M ks sl lv (pc + 3) st) : AWO p l e R s m args below meth c D cs b nL H0 Qf (if bb = true then F1 else F2) M ks sl lv pc (.int (bI bb) :: st) := fun r hr H L ls h1 h2 h3 => lv_if_ne X.1 X.2.1 hdg ht (fun cnd => kt r (by rw [← hr, if_pos (by cases bb with | true => rfl | false => exact absurd rfl cnd)]) H L ls h1 h2 h3) (fun cnd => kf r (by rw [← hr, if_neg (by intro h; rw [h] at cnd; exact absurd cnd (by decide))]) H L ls h1 h2 h3)
theorem aw_ifnull_r (X : jX p c cc nL s m args own D cs b meth H0) {x : Nat} {off : Int} (hdg : decode cc pc = .ok (.ifnull off, 3)) (k : AWO p l e R s m args below meth c D cs b nL H0 Qf F M ks sl lv (pc + 3) st) : AWO p l e R s m args below meth c D cs b nL H0 Qf F M ks sl lv pc (.ref x :: st) := fun r hr H L ls h1 h2 h3 => lv_ifnull X.1 X.2.1 hdg (k r hr H L ls h1 h2 h3)
theorem aw_ifnonnull_r (X : jX p c cc nL s m args own D cs b meth H0) {x : Nat} {off : Int} (tgt : Nat) (hdg : decode cc pc = .ok (.ifnonnull off, 3)) (ht : (pc : Int) + off = (tgt : Int)) (k : AWO p l e R s m args below meth c D cs b nL H0 Qf F M ks sl lv tgt st) : AWO p l e R s m args below meth c D cs b nL H0 Qf F M ks sl lv pc (.ref x :: st) := fun r hr H L ls h1 h2 h3 => lv_ifnonnull X.1 X.2.1 hdg ht (k r hr H L ls h1 h2 h3)
theorem aw_ifnull_n (X : jX p c cc nL s m args own D cs b meth H0) {off : Int} (tgt : Nat) (hdg : decode cc pc = .ok (.ifnull off, 3)) (ht : (pc : Int) + off = (tgt : Int)) (k : AWO p l e R s m args below meth c D cs b nL H0 Qf F M ks sl lv tgt st) : AWO p l e R s m args below meth c D cs b nL H0 Qf F M ks sl lv pc (.null :: st) := fun r hr H L ls h1 h2 h3 => lv_ifnullN X.1 X.2.1 hdg ht (k r hr H L ls h1 h2 h3)
theorem aw_ifnonnull_n (X : jX p c cc nL s m args own D cs b meth H0) {off : Int} (hdg : decode cc pc = .ok (.ifnonnull off, 3)) (k : AWO p l e R s m args below meth c D cs b nL H0 Qf F M ks sl lv (pc + 3) st) : AWO p l e R s m args below meth c D cs b nL H0 Qf F M ks sl lv pc (.null :: st) := fun r hr H L ls h1 h2 h3 => lv_ifnonnullN X.1 X.2.1 hdg (k r hr H L ls h1 h2 h3)
theorem aw_swIn (X : jX p c cc nL s m args own D cs b meth H0) {dflt lo hi : Int} {offs : Array Int} {len : Nat} {x : Int32} {off : Int} (v : Int32) (tgt : Nat) (hdg : decode cc pc = .ok (.tableswitch dflt lo hi offs, len)) (hv1 : ¬ v.toInt < lo) (hv2 : ¬ hi < v.toInt) (ho : offs[(v.toInt - lo).toNat]? = some off) (ht : (pc : Int) + off = (tgt : Int)) (k : AWO p l e R s m args below meth c D cs b nL H0 Qf F1 M ks sl lv tgt st) (k2 : ¬ x = v → AWO p l e R s m args below meth c D cs b nL H0 Qf F2 M ks sl lv pc (.int x :: st)) : AWO p l e R s m args below meth c D cs b nL H0 Qf (if x = v then F1 else F2) M ks sl lv pc (.int x :: st) := fun r hr H L ls h1 h2 h3 => by
  by_cases h0 : x = v
  · rw [if_pos h0] at hr
    subst h0
    exact lv_tableIn X.1 X.2.1 hdg hv1 hv2 ho ht (k r hr H L ls h1 h2 h3)
  · rw [if_neg h0] at hr
    exact k2 h0 r hr H L ls h1 h2 h3
theorem aw_swOut (X : jX p c cc nL s m args own D cs b meth H0) {dflt lo hi : Int} {offs : Array Int} {len : Nat} {x : Int32} (tgt : Nat) (hdg : decode cc pc = .ok (.tableswitch dflt lo hi offs, len)) (h : x.toInt < lo ∨ hi < x.toInt) (ht : (pc : Int) + dflt = (tgt : Int)) (k : AWO p l e R s m args below meth c D cs b nL H0 Qf F M ks sl lv tgt st) : AWO p l e R s m args below meth c D cs b nL H0 Qf F M ks sl lv pc (.int x :: st) := fun r hr H L ls h1 h2 h3 => lv_tableOut X.1 X.2.1 hdg h ht (k r hr H L ls h1 h2 h3)
end ROWS
end
section
/-! rows of the memory machine: fields, rows, new cells -/
theorem nI_ne {a c : Nat} (ha : a < 2 ^ 31) (hc : c < 2 ^ 31) (h : ¬ a = c) : ¬ nI a = nI c := fun q => h (nI_inj ha hc q)
theorem fldV_si {b : Nat} {M : JM} {k : Nat} {ty : List Nat} {kf : Nat} (hs : ty.length < 1000) (hk : kf < ty.length) (h0 : ty[kf]? = some 0) (x : Int32) : fldV b (si M k (nI kf) x) k ty = (fldV b M k ty).set kf (.int x) := by
  apply List.ext_getElem?
  intro j
  by_cases hj : j < ty.length
  · have hlen : kf < (fldV b M k ty).length := by rw [fldV_len]; exact hk
    by_cases hjk : kf = j
    · subst hjk
      rw [fldV_get hj, List.getElem?_set_self hlen, h0]
      simp [gi_si]
    · have hne : ¬ (k = k ∧ nI j = nI kf) := fun q => nI_ne (by omega) (by omega) hjk q.2.symm
      rw [fldV_get hj, List.getElem?_set_ne hjk, fldV_get hj, gr_si, gi_si]
      rw [if_neg hne]
  · rw [List.getElem?_eq_none (by rw [fldV_len]; omega), List.getElem?_eq_none (by rw [List.length_set, fldV_len]; omega)]
theorem fldV_sr {b : Nat} {M : JM} {k : Nat} {ty : List Nat} {kf τ : Nat} (hs : ty.length < 1000) (hk : kf < ty.length) (h0 : ty[kf]? = some τ) (hτ : ¬ τ = 0) (x : Option Nat) : fldV b (sr M k (nI kf) x) k ty = (fldV b M k ty).set kf (vr b x) := by
  apply List.ext_getElem?
  intro j
  by_cases hj : j < ty.length
  · have hlen : kf < (fldV b M k ty).length := by rw [fldV_len]; exact hk
    by_cases hjk : kf = j
    · subst hjk
      rw [fldV_get hj, List.getElem?_set_self hlen, h0]
      simp [gr_sr, hτ]
    · have hne : ¬ (k = k ∧ nI j = nI kf) := fun q => nI_ne (by omega) (by omega) hjk q.2.symm
      rw [fldV_get hj, List.getElem?_set_ne hjk, fldV_get hj, gi_sr, gr_sr]
      rw [if_neg hne]
  · rw [List.getElem?_eq_none (by rw [fldV_len]; omega), List.getElem?_eq_none (by rw [List.length_set, fldV_len]; omega)]
theorem ent_si {b : Nat} {cs : JC} {M : JM} {k i : Nat} {j x : Int32} (h : i ≠ k) : ent b cs (si M k j x) i = ent b cs M i := ent_same (fun j' => by rw [gi_si, if_neg (fun q => h q.1)]) (fun _ => rfl)
theorem ent_sr {b : Nat} {cs : JC} {M : JM} {k i : Nat} {j : Int32} {x : Option Nat} (h : i ≠ k) : ent b cs (sr M k j x) i = ent b cs M i := ent_same (fun _ => rfl) (fun j' => by rw [gr_sr, if_neg (fun q => h q.1)])
theorem ent_cpm {b : Nat} {cs : JC} {M : JM} {k1 k i : Nat} {sp dp n : Int32} (h : i ≠ k) : ent b cs (cpm M k1 sp k dp n) i = ent b cs M i := ent_same (fun j' => by rw [gi_cpm, if_neg (fun q => h q.1)]) (fun _ => rfl)
theorem rty_obj {k ci τ kf : Nat} (h : tc (shp k) = 10 + ci) (hk : kf < 1000) (h0 : (fty ci)[kf]? = some τ) : rty (shp k) (nI kf) = τ := by
  have h1 := tc_obj h (shp_fst k)
  rw [h1]
  unfold rty
  rw [if_pos rfl, nI_clamp (by omega), h0]
  rfl
theorem upd_nI {f : Int32 → Int32} {i x : Int32} {n : Nat} (hn : n < 2000) (h0 : nI i.toNatClampNeg = i) (h1 : i.toNatClampNeg < n) : ∀ j, j < n → (fun t => .int (upd (fun j => f (nI j)) i.toNatClampNeg x t) : Nat → Value) j = (fun t => .int (if nI t = i then x else f (nI t)) : Nat → Value) j := by
  intro j hj
  dsimp only [upd]
  by_cases h : j = i.toNatClampNeg
  · rw [if_pos h, if_pos (by rw [h]; exact h0)]
  · rw [if_neg h, if_neg (fun q => h (nI_inj (by omega) (by omega) (q.trans h0.symm)))]
section ROWS2
variable {ρ : Type} {p : Program} {l : Launch} {e : Env} {R : Room} {s : State} {m : MethodId} {args : Array Value} {below : List Frame} {meth : Method} {c : Code} {D : va_G} {cs : JC} {b nL : Nat} {H0 : Heap} {Qf : ρ × JM → State → Prop} {F : Option (ρ × JM)} {M : JM} {ks sl : Nat} {lv lv' : List (Nat × Value)} {pc : Nat} {st : List Value} {cc : ByteArray} {own : String}
variable {C : String} {T : u_T} {N ci index k : Nat}
theorem aw_getI (X : jX p c cc nL s m args own D cs b meth H0) (kf : Nat) (hc : vwCl[ci]? = some (C, T, N)) (hin : ∀ w ∈ u_ws C T N, w ∈ GB) (hk : kf < N) (hT : (T kf).1 = C) (h0 : (fty ci)[kf]? = some 0) (hlink : Cond.fieldLink own index C (T kf).2.1 (T kf).2.2.1 ∈ GB) (hdg : decode cc pc = .ok (.getfield index, 3)) (ho : oty M k (10 + ci)) (kk : AWO p l e R s m args below meth c D cs b nL H0 Qf F M ks sl lv (pc + 3) (.int (gi M k (nI kf)) :: st)) : AWO p l e R s m args below meth c D cs b nL H0 Qf F M ks sl lv pc (.ref (b + k) :: st) := fun r hr H L ls h1 h2 h3 => by
  have hP : va_P D vwCl [(b + k, .inr (ci, fldV b M k (fty ci)))] H := fun i q hq => by
    rw [List.getElem?_singleton] at hq
    split at hq
    · cases hq
      rw [← ent_obj (cs := cs) ho.2]
      exact h1.2.1 k ho.1
    · cases hq
  have hl : kf < (fty ci).length := (List.getElem?_eq_some_iff.mp h0).1
  exact va_get X.1 X.2.1 X.2.2.2.1 hin X.2.2.2.2.1 X.2.2.2.2.2.1.1 hP 0 rfl hc kf hk (X.2.2.2.1 _ hlink) (fun x hx => by rw [hT] at hx; exact hx) (by rw [fldV_get hl, h0]; rfl) hdg (kk r hr H L ls h1 h2 h3)
theorem aw_getR (X : jX p c cc nL s m args own D cs b meth H0) {τ : Nat} (kf : Nat) (hc : vwCl[ci]? = some (C, T, N)) (hin : ∀ w ∈ u_ws C T N, w ∈ GB) (hk : kf < N) (hN : N < 1000) (hT : (T kf).1 = C) (h0 : (fty ci)[kf]? = some τ) (hτ : ¬ τ = 0) (hlink : Cond.fieldLink own index C (T kf).2.1 (T kf).2.2.1 ∈ GB) {K : Nat → Option (ρ × JM)} (hdg : decode cc pc = .ok (.getfield index, 3)) (ho : oty M k (10 + ci)) (kk : ∀ r : Nat, oty M r τ → AWO p l e R s m args below meth c D cs b nL H0 Qf (K r) M ks sl lv (pc + 3) (.ref (b + r) :: st)) : AWO p l e R s m args below meth c D cs b nL H0 Qf (orf (gr M k (nI kf)) K) M ks sl lv pc (.ref (b + k) :: st) := fun r hr H L ls h1 h2 h3 => by
  have hP : va_P D vwCl [(b + k, .inr (ci, fldV b M k (fty ci)))] H := fun i q hq => by
    rw [List.getElem?_singleton] at hq
    split at hq
    · cases hq
      rw [← ent_obj (cs := cs) ho.2]
      exact h1.2.1 k ho.1
    · cases hq
  have hl : kf < (fty ci).length := (List.getElem?_eq_some_iff.mp h0).1
  cases hg : gr M k (nI kf) with
  | none => rw [hg] at hr; cases hr
  | some x =>
    rw [hg] at hr
    have hx : oty M x τ := ⟨(h1.2.2 k _ x ho.1 hg).1, by rw [(h1.2.2 k _ x ho.1 hg).2]; exact rty_obj ho.2 (by omega) h0⟩
    exact va_get X.1 X.2.1 X.2.2.2.1 hin X.2.2.2.2.1 X.2.2.2.2.2.1.1 hP 0 rfl hc kf hk (X.2.2.2.1 _ hlink) (fun x hx => by rw [hT] at hx; exact hx) (v := .ref (b + x)) (by rw [fldV_get hl, h0, hg]; show some (if τ = 0 then _ else _) = _; rw [if_neg hτ]; rfl) hdg (kk x hx r hr H L ls h1 h2 h3)
theorem aw_putC (X : jX p c cc nL s m args own D cs b meth H0) (kf : Nat) (hc : vwCl[ci]? = some (C, T, N)) (hin : ∀ w ∈ u_ws C T N, w ∈ GB) (ty0 : Nat → FieldType) (hty : ∀ k, k < N → parseFieldDescriptor (T k).2.2.1 = some (ty0 k)) (hnm : ∀ a, a < N → ∀ b, b < N → a ≠ b → (T a).2.1 ≠ (T b).2.1) (hk : kf < N) (hl : kf < (fty ci).length) (hT : (T kf).1 = C) (hlink : Cond.fieldLink own index C (T kf).2.1 (T kf).2.2.1 ∈ GB)
    (hfin : (T kf).2.2.2 = false ∨ ((T kf).2.2.2 = true ∧ meth.name = "<init>" ∧ C = own)) {ty : FieldType} {v : Value} (hd : parseFieldDescriptor (T kf).2.2.1 = some ty) (hn : narrow ty v = v) (hfit : fits ty v = true) {M' : JM} (hgn : gn M' = gn M) (hfld : fldV b M' k (fty ci) = (fldV b M k (fty ci)).set kf v) (hoth : ∀ i, i ≠ k → ent b cs M' i = ent b cs M i) (hTT : jT M → jT M')
    (hdg : decode cc pc = .ok (.putfield index, 3)) (ho : oty M k (10 + ci)) (kk : AWO p l e R s m args below meth c D cs b nL H0 Qf F M' ks sl lv (pc + 3) st) : AWO p l e R s m args below meth c D cs b nL H0 Qf F M ks sl lv pc (v :: .ref (b + k) :: st) := fun r hr H L ls h1 h2 h3 => by
  have hK := X.2.2.2.2.2.1.1
  have hap := va_apart (own := own) X.2.2.2.1 hin ty0 hty hnm hK hc
  have hat := h1.2.1 k ho.1
  rw [ent_obj ho.2] at hat
  obtain ⟨r', h1', cell, q1, q2, q3, q4⟩ := hat
  have hr' : r' = (C, T, N) := Option.some.inj (h1'.symm.trans hc)
  subst hr'
  obtain ⟨hS, hfc, kC, hkC, hkind⟩ := hK.1 ci _ hc
  obtain ⟨cf, kf', fi, f, hi, hsl⟩ := hS kf hk
  have hlay := X.2.2.2.1 _ (hin _ (u_in_lay hk))
  have hst := (u_facts hfc hkC (u_lays X.2.2.2.1 hin hk) hi).1
  have hsame : s.fieldFound? C (T kf).2.1 (T kf).2.2.1 = some (cf, kf', fi, f) := by rw [hT] at hi; exact hi
  have fin : ∀ H' : Heap, H'[b + k]? = some (cell.setSlot f.slot v) → H'.size = H.size → (∀ q, q ≠ b + k → H'[q]? = H[q]?) → W p l e R s m args below meth c H' (L ++ [⟨b + k, f.slot⟩]) ks sl (Qf r) (F0 m (pc + 3) ls st) := fun H' e1 e2 e3 => by
    rw [hsl] at e1 ⊢
    refine kk r hr H' _ ls (h1.set e2 e3 hgn (fun i _ hik => hoth i hik) ?_ (hTT h1.2.2)) (h2.put e2 e3 (Nat.le_add_right b k)) h3
    rw [ent_obj ho.2, hfld]
    exact ⟨_, hc, t_OB.to (V := updV (vp_V (fldV b M k (fty ci))) kf v) ⟨_, e1, q2, q3, t_set q4 hap hk v⟩ (fun j _ => vp_updV_set (by rw [fldV_len]; exact hl) v j)⟩
  rcases hfin with hf | ⟨hf, hin2, hco⟩
  · unfold u_lay at hlay
    rw [if_neg (by rw [hf]; decide)] at hlay
    have h6 := u_store hfc hkC hkind hlay hi hd hn hfit
    exact W.putK X.1 X.2.1 (f := f) ⟨X.2.2.2.2.1, X.2.2.2.1 _ hlink, ⟨_, _, _, hsame⟩, hst⟩ (by rw [q2]; exact h6) q1 q3 (by rw [hsl]; exact k2_hasslot (q4 kf hk)) rfl rfl hdg fin
  · unfold u_lay at hlay
    rw [if_pos hf] at hlay
    have hcf : m.cls = cf := by
      obtain ⟨_, _, c', _, _, _, -, -, hf', -, -, -, hown2, -⟩ := Cond.laysFinal_spec hlay
      have e1 : c' = cf := by have := hi.symm.trans hf'; simp at this; exact this.1.symm
      rw [hT, hco] at hown2
      rw [← e1]; exact Option.some.inj (X.2.2.2.2.1.symm.trans hown2)
    have h6 := u_fits hfc hkC hkind (Or.inr hlay) hi hd hn hfit
    exact W.putFinK X.1 X.2.1 X.2.2.2.2.1 (X.2.2.2.1 _ hlink) hsame hst hcf hin2 (by rw [q2]; exact h6) q1 q3 (by rw [hsl]; exact k2_hasslot (q4 kf hk)) rfl rfl hdg fin
theorem aw_putI (X : jX p c cc nL s m args own D cs b meth H0) (kf : Nat) (hc : vwCl[ci]? = some (C, T, N)) (hin : ∀ w ∈ u_ws C T N, w ∈ GB) (ty0 : Nat → FieldType) (hty : ∀ k, k < N → parseFieldDescriptor (T k).2.2.1 = some (ty0 k)) (hnm : ∀ a, a < N → ∀ b, b < N → a ≠ b → (T a).2.1 ≠ (T b).2.1) (hk : kf < N) (hl : (fty ci).length < 1000) (h0 : (fty ci)[kf]? = some 0) (hT : (T kf).1 = C) (hlink : Cond.fieldLink own index C (T kf).2.1 (T kf).2.2.1 ∈ GB) (hd : parseFieldDescriptor (T kf).2.2.1 = some .int)
    (hfin : (T kf).2.2.2 = false ∨ ((T kf).2.2.2 = true ∧ meth.name = "<init>" ∧ C = own)) {x : Int32} (hdg : decode cc pc = .ok (.putfield index, 3)) (ho : oty M k (10 + ci)) (kk : AWO p l e R s m args below meth c D cs b nL H0 Qf F (si M k (nI kf) x) ks sl lv (pc + 3) st) : AWO p l e R s m args below meth c D cs b nL H0 Qf F M ks sl lv pc (.int x :: .ref (b + k) :: st) :=
  have hl2 : kf < (fty ci).length := (List.getElem?_eq_some_iff.mp h0).1
  aw_putC X kf hc hin ty0 hty hnm hk hl2 hT hlink hfin hd rfl rfl (M' := si M k (nI kf) x) rfl (fldV_si hl hl2 h0 x) (fun i hi => ent_si hi) (fun h => jT_si h k _ x) hdg ho kk
theorem aw_putR (X : jX p c cc nL s m args own D cs b meth H0) {τ : Nat} (kf : Nat) (hc : vwCl[ci]? = some (C, T, N)) (hin : ∀ w ∈ u_ws C T N, w ∈ GB) (ty0 : Nat → FieldType) (hty : ∀ k, k < N → parseFieldDescriptor (T k).2.2.1 = some (ty0 k)) (hnm : ∀ a, a < N → ∀ b, b < N → a ≠ b → (T a).2.1 ≠ (T b).2.1) (hk : kf < N) (hl : (fty ci).length < 1000) (h0 : (fty ci)[kf]? = some τ) (hτ : ¬ τ = 0) (hT : (T kf).1 = C) (hlink : Cond.fieldLink own index C (T kf).2.1 (T kf).2.2.1 ∈ GB) {ty : FieldType} (hd : parseFieldDescriptor (T kf).2.2.1 = some ty) (hft : ∀ a : Nat, narrow ty (.ref a) = .ref a ∧ fits ty (.ref a) = true)
    (hfin : (T kf).2.2.2 = false ∨ ((T kf).2.2.2 = true ∧ meth.name = "<init>" ∧ C = own)) {x : Nat} (hdg : decode cc pc = .ok (.putfield index, 3)) (ho : oty M k (10 + ci)) (hx : oty M x τ) (kk : AWO p l e R s m args below meth c D cs b nL H0 Qf F (sr M k (nI kf) (some x)) ks sl lv (pc + 3) st) : AWO p l e R s m args below meth c D cs b nL H0 Qf F M ks sl lv pc (.ref (b + x) :: .ref (b + k) :: st) :=
  have hl2 : kf < (fty ci).length := (List.getElem?_eq_some_iff.mp h0).1
  aw_putC X kf hc hin ty0 hty hnm hk hl2 hT hlink hfin hd (hft _).1 (hft _).2 (M' := sr M k (nI kf) (some x)) rfl (fldV_sr hl hl2 h0 hτ (some x)) (fun i hi => ent_sr hi) (fun h => jT_sr h (fun r hr => by cases hr; exact ⟨hx.1, by rw [hx.2]; exact (rty_obj ho.2 (by omega) h0).symm⟩)) hdg ho kk

theorem aw_iald (X : jX p c cc nL s m args own D cs b meth H0) {i : Int32} (hdg : decode cc pc = .ok (.iaload, 1)) (ho : oty M k 1) (kk : AWO p l e R s m args below meth c D cs b nL H0 Qf F M ks sl lv (pc + 1) (.int (gi M k i) :: st)) : AWO p l e R s m args below meth c D cs b nL H0 Qf (if 0 ≤ i ∧ i < ln k then F else none) M ks sl lv pc (.int i :: .ref (b + k) :: st) := fun r hr H L ls h1 h2 h3 => by
  by_cases hi : 0 ≤ i ∧ i < ln k
  · rw [if_pos hi] at hr
    obtain ⟨g1, g2, g3⟩ := in_of (shp_len k) hi
    have hP : va_P D vwCl [(b + k, ent b cs M k)] H := fun j q hq => by
      rw [List.getElem?_singleton] at hq
      split at hq
      · cases hq
        exact h1.2.1 k ho.1
      · cases hq
    rw [ent_int ho.2] at hP
    refine va_iald X.1 X.2.1 X.2.2.2.2.2.1.1 hP 0 0 rfl rfl g1 hdg ?_
    rw [g2]
    exact kk r hr H L ls h1 h2 h3
  · rw [if_neg hi] at hr; cases hr
theorem aw_zald (X : jX p c cc nL s m args own D cs b meth H0) {i : Int32} (hdg : decode cc pc = .ok (.baload, 1)) (ho : oty M k 2) (kk : AWO p l e R s m args below meth c D cs b nL H0 Qf F M ks sl lv (pc + 1) (.int (gi M k i) :: st)) : AWO p l e R s m args below meth c D cs b nL H0 Qf (if 0 ≤ i ∧ i < ln k then F else none) M ks sl lv pc (.int i :: .ref (b + k) :: st) := fun r hr H L ls h1 h2 h3 => by
  by_cases hi : 0 ≤ i ∧ i < ln k
  · rw [if_pos hi] at hr
    obtain ⟨g1, g2, g3⟩ := in_of (shp_len k) hi
    have hP : va_P D vwCl [(b + k, ent b cs M k)] H := fun j q hq => by
      rw [List.getElem?_singleton] at hq
      split at hq
      · cases hq
        exact h1.2.1 k ho.1
      · cases hq
    rw [ent_bool ho.2] at hP
    refine va_zald X.1 X.2.1 X.2.2.2.2.2.1.1 hP 0 1 rfl rfl g1 hdg ?_
    rw [g2]
    exact kk r hr H L ls h1 h2 h3
  · rw [if_neg hi] at hr; cases hr
theorem aw_iast (X : jX p c cc nL s m args own D cs b meth H0) {i x : Int32} (hdg : decode cc pc = .ok (.iastore, 1)) (ho : oty M k 1) (kk : AWO p l e R s m args below meth c D cs b nL H0 Qf F (si M k i x) ks sl lv (pc + 1) st) : AWO p l e R s m args below meth c D cs b nL H0 Qf (if 0 ≤ i ∧ i < ln k then F else none) M ks sl lv pc (.int x :: .int i :: .ref (b + k) :: st) := fun r hr H L ls h1 h2 h3 => by
  by_cases hi : 0 ≤ i ∧ i < ln k
  · rw [if_pos hi] at hr
    obtain ⟨g1, g2, g3⟩ := in_of (shp_len k) hi
    have hat := h1.2.1 k ho.1
    rw [ent_int ho.2] at hat
    refine W.iast X.1 X.2.1 hat ((X.2.2.2.2.2.1.1.2 0 _ rfl).1 (shp k).2 (fun j => .int (gi M k (nI j)))) (fun q => by cases q) (by show ¬ (i < 0 ∨ (arrV _ _ _).slots.size ≤ _); rw [arrV_size]; exact g1) rfl rfl hdg fun H1 e1 z oq => ?_
    refine kk r hr H1 _ ls (h1.set z oq rfl (fun j _ hj => ent_si hj) ?_ (jT_si h1.2.2 k i _)) (h2.put z oq (Nat.le_add_right b k)) h3
    rw [ent_int ho.2]
    show H1[b + k]? = some (vp_cell _ _)
    rw [e1]
    rw [vp_cell_i, vp_cell_i]
    refine congrArg some ?_
    rw [arrV_store]
    refine arrV_congr (fun j hj => ?_)
    dsimp only [updV, gi_si]
    by_cases hjk : j = i.toNatClampNeg
    · rw [if_pos hjk, if_pos ⟨rfl, by rw [hjk]; exact g2⟩]
    · rw [if_neg hjk, if_neg (fun q => hjk (nI_inj (by have := shp_len k; omega) (by have := shp_len k; omega) (q.2.trans g2.symm)))]
  · rw [if_neg hi] at hr; cases hr
theorem aw_zast (X : jX p c cc nL s m args own D cs b meth H0) {i x : Int32} (hdg : decode cc pc = .ok (.bastore, 1)) (ho : oty M k 2) (kk : AWO p l e R s m args below meth c D cs b nL H0 Qf F (si M k i (vp_nar .boolean x)) ks sl lv (pc + 1) st) : AWO p l e R s m args below meth c D cs b nL H0 Qf (if 0 ≤ i ∧ i < ln k then F else none) M ks sl lv pc (.int x :: .int i :: .ref (b + k) :: st) := fun r hr H L ls h1 h2 h3 => by
  by_cases hi : 0 ≤ i ∧ i < ln k
  · rw [if_pos hi] at hr
    obtain ⟨g1, g2, g3⟩ := in_of (shp_len k) hi
    have hat := h1.2.1 k ho.1
    rw [ent_bool ho.2] at hat
    refine W.zast X.1 X.2.1 hat ((X.2.2.2.2.2.1.1.2 1 _ rfl).1 (shp k).2 (fun j => .int (gi M k (nI j)))) (fun q => by cases q) (by show ¬ (i < 0 ∨ (arrV _ _ _).slots.size ≤ _); rw [arrV_size]; exact g1) rfl rfl hdg fun H1 e1 z oq => ?_
    refine kk r hr H1 _ ls (h1.set z oq rfl (fun j _ hj => ent_si hj) ?_ (jT_si h1.2.2 k i _)) (h2.put z oq (Nat.le_add_right b k)) h3
    rw [ent_bool ho.2]
    show H1[b + k]? = some (vp_cell _ _)
    rw [e1]
    rw [vp_cell_i, vp_cell_i]
    refine congrArg some ?_
    rw [arrV_store]
    refine arrV_congr (fun j hj => ?_)
    dsimp only [updV, gi_si]
    by_cases hjk : j = i.toNatClampNeg
    · rw [if_pos hjk, if_pos ⟨rfl, by rw [hjk]; exact g2⟩]
      rfl
    · rw [if_neg hjk, if_neg (fun q => hjk (nI_inj (by have := shp_len k; omega) (by have := shp_len k; omega) (q.2.trans g2.symm)))]
  · rw [if_neg hi] at hr; cases hr
theorem aw_alen (X : jX p c cc nL s m args own D cs b meth H0) (hdg : decode cc pc = .ok (.arraylength, 1)) (ho : oty M k 1) (kk : AWO p l e R s m args below meth c D cs b nL H0 Qf F M ks sl lv (pc + 1) (.int (ln k) :: st)) : AWO p l e R s m args below meth c D cs b nL H0 Qf F M ks sl lv pc (.ref (b + k) :: st) := fun r hr H L ls h1 h2 h3 => by
  have hP : va_P D vwCl [(b + k, ent b cs M k)] H := fun j q hq => by
    rw [List.getElem?_singleton] at hq
    split at hq
    · cases hq
      exact h1.2.1 k ho.1
    · cases hq
  rw [ent_int ho.2] at hP
  exact va_alen X.1 X.2.1 X.2.2.2.2.2.1.1 hP 0 0 rfl rfl rfl hdg (kk r hr H L ls h1 h2 h3)
theorem aw_aldC (X : jX p c cc nL s m args own D cs b meth H0) {i : Int32} {K : Nat → Option (ρ × JM)} (hdg : decode cc pc = .ok (.aaload, 1)) (ho : oty M k 3) (kk : ∀ x : Nat, oty M x 11 → AWO p l e R s m args below meth c D cs b nL H0 Qf (K x) M ks sl lv (pc + 1) (.ref (b + x) :: st)) : AWO p l e R s m args below meth c D cs b nL H0 Qf (if 0 ≤ i ∧ i < ln k then orf (gr M k i) K else none) M ks sl lv pc (.int i :: .ref (b + k) :: st) := fun r hr H L ls h1 h2 h3 => by
  by_cases hi : 0 ≤ i ∧ i < ln k
  · rw [if_pos hi] at hr
    obtain ⟨g1, g2, g3⟩ := in_of (shp_len k) hi
    have hP : va_P D vwCl [(b + k, ent b cs M k)] H := fun j q hq => by
      rw [List.getElem?_singleton] at hq
      split at hq
      · cases hq
        exact h1.2.1 k ho.1
      · cases hq
    rw [ent_cat ho.2] at hP
    refine va_aldq X.1 X.2.1 X.2.2.2.2.2.1.1 hP 0 2 rfl rfl g1 hdg ?_
    rw [g2]
    cases hg : gr M k i with
    | none => rw [hg] at hr; cases hr
    | some x =>
      rw [hg] at hr
      have hx := h1.2.2 k i x ho.1 hg
      have hrt : rty (shp k) i = 11 := by
        have := tc_row ho.2 (by decide)
        unfold rty
        rw [this]
        rfl
      exact kk x ⟨hx.1, by rw [hx.2]; exact hrt⟩ r hr H L ls h1 h2 h3
  · rw [if_neg hi] at hr; cases hr
theorem aw_aldCo (X : jX p c cc nL s m args own D cs b meth H0) {i : Int32} (hdg : decode cc pc = .ok (.aaload, 1)) (ho : oty M k 3) (kk : (∀ x, gr M k i = some x → oty M x 11) → AWO p l e R s m args below meth c D cs b nL H0 Qf F M ks sl lv (pc + 1) (vr b (gr M k i) :: st)) : AWO p l e R s m args below meth c D cs b nL H0 Qf (if 0 ≤ i ∧ i < ln k then F else none) M ks sl lv pc (.int i :: .ref (b + k) :: st) := fun r hr H L ls h1 h2 h3 => by
  by_cases hi : 0 ≤ i ∧ i < ln k
  · rw [if_pos hi] at hr
    obtain ⟨g1, g2, g3⟩ := in_of (shp_len k) hi
    have hP : va_P D vwCl [(b + k, ent b cs M k)] H := fun j q hq => by
      rw [List.getElem?_singleton] at hq
      split at hq
      · cases hq
        exact h1.2.1 k ho.1
      · cases hq
    rw [ent_cat ho.2] at hP
    refine va_aldq X.1 X.2.1 X.2.2.2.2.2.1.1 hP 0 2 rfl rfl g1 hdg ?_
    rw [g2]
    refine kk (fun x hg => ?_) r hr H L ls h1 h2 h3
    have hx := h1.2.2 k i x ho.1 hg
    have hrt : rty (shp k) i = 11 := by
      have := tc_row ho.2 (by decide)
      unfold rty
      rw [this]
      rfl
    exact ⟨hx.1, by rw [hx.2]; exact hrt⟩
  · rw [if_neg hi] at hr; cases hr
theorem aw_astC (X : jX p c cc nL s m args own D cs b meth H0) {i : Int32} {x : Nat} (hdg : decode cc pc = .ok (.aastore, 1)) (ho : oty M k 3) (hx : oty M x 11) (kk : AWO p l e R s m args below meth c D cs b nL H0 Qf F (sr M k i (some x)) ks sl lv (pc + 1) st) : AWO p l e R s m args below meth c D cs b nL H0 Qf (if 0 ≤ i ∧ i < ln k then F else none) M ks sl lv pc (.ref (b + x) :: .int i :: .ref (b + k) :: st) := fun r hr H L ls h1 h2 h3 => by
  by_cases hi : 0 ≤ i ∧ i < ln k
  · rw [if_pos hi] at hr
    obtain ⟨g1, g2, g3⟩ := in_of (shp_len k) hi
    have hat := h1.2.1 k ho.1
    rw [ent_cat ho.2] at hat
    have hav := h1.2.1 x hx.1
    rw [ent_obj (ci := 1) hx.2] at hav
    obtain ⟨r', hr', cellV, f1, f2, f3, -⟩ := hav
    have hK := X.2.2.2.2.2.1.1
    have hcls := (hK.1 1 _ rfl).2
    obtain ⟨kA, comp, k1, k2, k3, -⟩ := (hK.2 2 _ rfl).2
    have hcomp : comp = D.1 1 := Option.some.inj (k3.symm.trans hcls.1)
    subst hcomp
    obtain ⟨kC, hkC, -⟩ := hcls.2
    refine W.aast X.1 X.2.1 hat (fun q h => by cases h) (fun h => by cases h) k1 k2 rfl hkC ⟨fun q => g1 (Or.inl q), by show _ < (arrV _ _ _).slots.size; rw [arrV_size]; exact g3⟩ f1 (fun q h => by rw [f3] at h; cases h) (by rw [f2]; exact hkC) (by rw [f2]; exact va_assign hcls) rfl rfl hdg fun H1 e1 z oq => ?_
    have hrt : rty (shp k) i = 11 := by
      have := tc_row ho.2 (by decide)
      unfold rty
      rw [this]
      rfl
    refine kk r hr H1 _ ls (h1.set z oq rfl (fun j _ hj => ent_sr hj) ?_ (jT_sr h1.2.2 (fun y hy => by cases hy; exact ⟨hx.1, by rw [hx.2, hrt]⟩))) (h2.put z oq (Nat.le_add_right b k)) h3
    rw [ent_cat ho.2]
    show H1[b + k]? = some (vp_cell _ _)
    rw [e1]
    rw [vp_cell_q, vp_cell_q]
    refine congrArg some ?_
    rw [arrV_store]
    refine arrV_congr (fun j hj => ?_)
    dsimp only [updV, gr_sr]
    by_cases hjk : j = i.toNatClampNeg
    · rw [if_pos hjk, if_pos ⟨rfl, by rw [hjk]; exact g2⟩]
      rfl
    · rw [if_neg hjk, if_neg (fun q => hjk (nI_inj (by have := shp_len k; omega) (by have := shp_len k; omega) (q.2.trans g2.symm)))]
  · rw [if_neg hi] at hr; cases hr
theorem aw_aldT (X : jX p c cc nL s m args own D cs b meth H0) {i : Int32} {K : Nat → Option (ρ × JM)} (hdg : decode cc pc = .ok (.aaload, 1)) (ho : oty M k 4) (kk : ∀ x : Nat, oty M x 15 → AWO p l e R s m args below meth c D cs b nL H0 Qf (K x) M ks sl lv (pc + 1) (.ref (b + x) :: st)) : AWO p l e R s m args below meth c D cs b nL H0 Qf (if 0 ≤ i ∧ i < ln k then orf (gr M k i) K else none) M ks sl lv pc (.int i :: .ref (b + k) :: st) := fun r hr H L ls h1 h2 h3 => by
  by_cases hi : 0 ≤ i ∧ i < ln k
  · rw [if_pos hi] at hr
    obtain ⟨g1, g2, g3⟩ := in_of (shp_len k) hi
    have hP : va_P D vwCl [(b + k, ent b cs M k)] H := fun j q hq => by
      rw [List.getElem?_singleton] at hq
      split at hq
      · cases hq
        exact h1.2.1 k ho.1
      · cases hq
    rw [ent_trk ho.2] at hP
    refine va_aldq X.1 X.2.1 X.2.2.2.2.2.1.1 hP 0 3 rfl rfl g1 hdg ?_
    rw [g2]
    cases hg : gr M k i with
    | none => rw [hg] at hr; cases hr
    | some x =>
      rw [hg] at hr
      have hx := h1.2.2 k i x ho.1 hg
      have hrt : rty (shp k) i = 15 := by
        have := tc_row ho.2 (by decide)
        unfold rty
        rw [this]
        rfl
      exact kk x ⟨hx.1, by rw [hx.2]; exact hrt⟩ r hr H L ls h1 h2 h3
  · rw [if_neg hi] at hr; cases hr
theorem aw_aldTo (X : jX p c cc nL s m args own D cs b meth H0) {i : Int32} (hdg : decode cc pc = .ok (.aaload, 1)) (ho : oty M k 4) (kk : (∀ x, gr M k i = some x → oty M x 15) → AWO p l e R s m args below meth c D cs b nL H0 Qf F M ks sl lv (pc + 1) (vr b (gr M k i) :: st)) : AWO p l e R s m args below meth c D cs b nL H0 Qf (if 0 ≤ i ∧ i < ln k then F else none) M ks sl lv pc (.int i :: .ref (b + k) :: st) := fun r hr H L ls h1 h2 h3 => by
  by_cases hi : 0 ≤ i ∧ i < ln k
  · rw [if_pos hi] at hr
    obtain ⟨g1, g2, g3⟩ := in_of (shp_len k) hi
    have hP : va_P D vwCl [(b + k, ent b cs M k)] H := fun j q hq => by
      rw [List.getElem?_singleton] at hq
      split at hq
      · cases hq
        exact h1.2.1 k ho.1
      · cases hq
    rw [ent_trk ho.2] at hP
    refine va_aldq X.1 X.2.1 X.2.2.2.2.2.1.1 hP 0 3 rfl rfl g1 hdg ?_
    rw [g2]
    refine kk (fun x hg => ?_) r hr H L ls h1 h2 h3
    have hx := h1.2.2 k i x ho.1 hg
    have hrt : rty (shp k) i = 15 := by
      have := tc_row ho.2 (by decide)
      unfold rty
      rw [this]
      rfl
    exact ⟨hx.1, by rw [hx.2]; exact hrt⟩
  · rw [if_neg hi] at hr; cases hr
theorem aw_astT (X : jX p c cc nL s m args own D cs b meth H0) {i : Int32} {x : Nat} (hdg : decode cc pc = .ok (.aastore, 1)) (ho : oty M k 4) (hx : oty M x 15) (kk : AWO p l e R s m args below meth c D cs b nL H0 Qf F (sr M k i (some x)) ks sl lv (pc + 1) st) : AWO p l e R s m args below meth c D cs b nL H0 Qf (if 0 ≤ i ∧ i < ln k then F else none) M ks sl lv pc (.ref (b + x) :: .int i :: .ref (b + k) :: st) := fun r hr H L ls h1 h2 h3 => by
  by_cases hi : 0 ≤ i ∧ i < ln k
  · rw [if_pos hi] at hr
    obtain ⟨g1, g2, g3⟩ := in_of (shp_len k) hi
    have hat := h1.2.1 k ho.1
    rw [ent_trk ho.2] at hat
    have hav := h1.2.1 x hx.1
    rw [ent_obj (ci := 5) hx.2] at hav
    obtain ⟨r', hr', cellV, f1, f2, f3, -⟩ := hav
    have hK := X.2.2.2.2.2.1.1
    have hcls := (hK.1 5 _ rfl).2
    obtain ⟨kA, comp, k1, k2, k3, -⟩ := (hK.2 3 _ rfl).2
    have hcomp : comp = D.1 5 := Option.some.inj (k3.symm.trans hcls.1)
    subst hcomp
    obtain ⟨kC, hkC, -⟩ := hcls.2
    refine W.aast X.1 X.2.1 hat (fun q h => by cases h) (fun h => by cases h) k1 k2 rfl hkC ⟨fun q => g1 (Or.inl q), by show _ < (arrV _ _ _).slots.size; rw [arrV_size]; exact g3⟩ f1 (fun q h => by rw [f3] at h; cases h) (by rw [f2]; exact hkC) (by rw [f2]; exact va_assign hcls) rfl rfl hdg fun H1 e1 z oq => ?_
    have hrt : rty (shp k) i = 15 := by
      have := tc_row ho.2 (by decide)
      unfold rty
      rw [this]
      rfl
    refine kk r hr H1 _ ls (h1.set z oq rfl (fun j _ hj => ent_sr hj) ?_ (jT_sr h1.2.2 (fun y hy => by cases hy; exact ⟨hx.1, by rw [hx.2, hrt]⟩))) (h2.put z oq (Nat.le_add_right b k)) h3
    rw [ent_trk ho.2]
    show H1[b + k]? = some (vp_cell _ _)
    rw [e1]
    rw [vp_cell_q, vp_cell_q]
    refine congrArg some ?_
    rw [arrV_store]
    refine arrV_congr (fun j hj => ?_)
    dsimp only [updV, gr_sr]
    by_cases hjk : j = i.toNatClampNeg
    · rw [if_pos hjk, if_pos ⟨rfl, by rw [hjk]; exact g2⟩]
      rfl
    · rw [if_neg hjk, if_neg (fun q => hjk (nI_inj (by have := shp_len k; omega) (by have := shp_len k; omega) (q.2.trans g2.symm)))]
  · rw [if_neg hi] at hr; cases hr
end ROWS2
end
section
/-! rows of the memory machine: new cells, copies, ends, calls -/
section ROWS3
variable {ρ : Type} {p : Program} {l : Launch} {e : Env} {R : Room} {s : State} {m : MethodId} {args : Array Value} {below : List Frame} {meth : Method} {c : Code} {D : va_G} {cs : JC} {b nL : Nat} {H0 : Heap} {Qf : ρ × JM → State → Prop} {F : Option (ρ × JM)} {M : JM} {ks sl : Nat} {lv lv' : List (Nat × Value)} {pc : Nat} {st : List Value} {cc : ByteArray} {own : String}
variable {C : String} {T : u_T} {N ci index k : Nat}
theorem va_S.old {A : Nat → Prop} {H0 H H1 : Heap} {locs : List Loc} (h : va_S A H0 H locs) (z : H.size ≤ H1.size) (oq : ∀ q : Nat, q < H.size → H1[q]? = H[q]?) : va_S A H0 H1 locs := ⟨Nat.le_trans h.1 z, fun x h1 h2 => (oq x (Nat.lt_of_lt_of_le h1 h.1)).trans (h.2.1 x h1 h2), h.2.2⟩
theorem aw_new (X : jX p c cc nL s m args own D cs b meth H0) (hc : vwCl[ci]? = some (C, T, N)) (hin : ∀ w ∈ u_ws C T N, w ∈ GB) (ty0 : Nat → FieldType) (hty : ∀ k, k < N → parseFieldDescriptor (T k).2.2.1 = some (ty0 k)) (hN : (fty ci).length = N) (hfs : ∀ j, j < N → defaultValue (ty0 j) = if (fty ci)[j]?.getD 0 = 0 then .int 0 else .null) (hcl : Cond.classLink own index C ∈ GB) (hinst : Cond.instantiable C N ∈ GB) (hini : Cond.initialized C ∈ GB) (hcells : ks + 1 ≤ R.cells) (hslots : sl + N ≤ R.slots) (hdg : decode cc pc = .ok (.new index, 3))
    (kk : oty (al M) (gn M) (10 + ci) → AWO p l e R s m args below meth c D cs b nL H0 Qf F (al M) (ks + 1) (sl + N) lv (pc + 3) (.ref (b + gn M) :: st)) : AWO p l e R s m args below meth c D cs b nL H0 Qf (if shp (gn M) = (0, ci) then F else none) M ks sl lv pc st := fun r hr H L ls h1 h2 h3 => by
  by_cases hs : shp (gn M) = (0, ci)
  · rw [if_pos hs] at hr
    have hK := X.2.2.2.2.2.1.1
    have hKn := hK.1 ci _ hc
    have htc : tc (shp (gn M)) = 10 + ci := by rw [hs]; rfl
    refine W.newcK X.1 X.2.1 X.2.2.2.2.1 (X.2.2.2.1 _ hcl) (X.2.2.2.1 _ hinst) (X.2.2.2.1 _ hini) rfl hdg hcells hslots hKn.2.1 h1.1 fun H1 kC hkC e1 z1 o1 => ?_
    have o2 : ∀ q : Nat, q < H.size → H1[q]? = H[q]? := fun q hq => o1 q (by rw [← h1.1]; exact hq)
    refine kk ⟨by rw [gn_al]; omega, htc⟩ r hr H1 L ls (h1.new (by rw [z1, h1.1]) o2 ?_) (h2.old (by rw [z1, h1.1]; omega) o2) h3
    rw [ent_obj htc]
    refine ⟨_, hc, (u_born ty0 X.2.2.2.1 hin hKn hkC e1 hty).to fun j hj => ?_⟩
    rw [hfs j hj]
    show _ = (fldV b (al M) (gn M) (fty ci)).getD j .null
    rw [List.getD_eq_getElem?_getD, fldV_get (by rw [hN]; exact hj), gi_al, gr_al, if_pos rfl, if_pos rfl]
    rfl
  · rw [if_neg hs] at hr; cases hr
theorem jarr {U : State} {cA cB : ClassId} {t : FieldType} (h : U.vm.findClass ("[" ++ t.toString) = some cA) (h2 : U.vm.findClass ("[" ++ t.toString) = some cB) : cA = cB := Option.some.inj (h.symm.trans h2)
theorem aw_newI (X : jX p c cc nL s m args own D cs b meth H0) {N' : Nat} {v : Int32} (hv : ¬ v < 0) (hN : v.toNatClampNeg = N') (hb4 : N' * 4 ≤ 536870912) (hcells : ks + 1 ≤ R.cells) (hslots : sl + N' ≤ R.slots) (hw : Cond.arrayClass .int ∈ GB) (hdg : decode cc pc = .ok (.newarray .int, 2))
    (kk : oty (al M) (gn M) 1 → AWO p l e R s m args below meth c D cs b nL H0 Qf F (al M) (ks + 1) (sl + N') lv (pc + 2) (.ref (b + gn M) :: st)) : AWO p l e R s m args below meth c D cs b nL H0 Qf (if shp (gn M) = (1, N') then F else none) M ks sl lv pc (.int v :: st) := fun r hr H L ls h1 h2 h3 => by
  by_cases hs : shp (gn M) = (1, N')
  · rw [if_pos hs] at hr
    have hK := X.2.2.2.2.2.1.1
    have htc : tc (shp (gn M)) = 1 := by rw [hs]; rfl
    refine va_newaK X.1 X.2.1 (atype := .int) (X.2.2.2.1 _ hw) rfl hdg rfl hv hN hb4 hcells hslots h1.1 fun H1 cA e1 z1 o1 hAr hNm => ?_
    have hcA : cA = cs.1 := jarr (t := .int) hNm (hK.2 0 _ rfl).2
    subst hcA
    have o2 : ∀ q : Nat, q < H.size → H1[q]? = H[q]? := fun q hq => o1 q (by rw [← h1.1]; exact hq)
    refine kk ⟨by rw [gn_al]; omega, htc⟩ r hr H1 L ls (h1.new (by rw [z1, h1.1]) o2 ?_) (h2.old (by rw [z1, h1.1]; omega) o2) h3
    rw [ent_int htc]
    show H1[b + gn M]? = some (vp_cell _ _)
    rw [vp_cell_i, hs, e1]
    refine congrArg some (arrV_congr fun j _ => ?_)
    rw [gi_al, if_pos rfl]
    rfl
  · rw [if_neg hs] at hr; cases hr
theorem aw_newZ (X : jX p c cc nL s m args own D cs b meth H0) {N' : Nat} {v : Int32} (hv : ¬ v < 0) (hN : v.toNatClampNeg = N') (hb4 : N' * 1 ≤ 536870912) (hcells : ks + 1 ≤ R.cells) (hslots : sl + N' ≤ R.slots) (hw : Cond.arrayClass .boolean ∈ GB) (hdg : decode cc pc = .ok (.newarray .boolean, 2))
    (kk : oty (al M) (gn M) 2 → AWO p l e R s m args below meth c D cs b nL H0 Qf F (al M) (ks + 1) (sl + N') lv (pc + 2) (.ref (b + gn M) :: st)) : AWO p l e R s m args below meth c D cs b nL H0 Qf (if shp (gn M) = (2, N') then F else none) M ks sl lv pc (.int v :: st) := fun r hr H L ls h1 h2 h3 => by
  by_cases hs : shp (gn M) = (2, N')
  · rw [if_pos hs] at hr
    have hK := X.2.2.2.2.2.1.1
    have htc : tc (shp (gn M)) = 2 := by rw [hs]; rfl
    refine va_newaK X.1 X.2.1 (atype := .boolean) (X.2.2.2.1 _ hw) rfl hdg rfl hv hN hb4 hcells hslots h1.1 fun H1 cA e1 z1 o1 hAr hNm => ?_
    have hcA : cA = cs.2.1 := jarr (t := .boolean) hNm (hK.2 1 _ rfl).2
    subst hcA
    have o2 : ∀ q : Nat, q < H.size → H1[q]? = H[q]? := fun q hq => o1 q (by rw [← h1.1]; exact hq)
    refine kk ⟨by rw [gn_al]; omega, htc⟩ r hr H1 L ls (h1.new (by rw [z1, h1.1]) o2 ?_) (h2.old (by rw [z1, h1.1]; omega) o2) h3
    rw [ent_bool htc]
    show H1[b + gn M]? = some (vp_cell _ _)
    rw [vp_cell_i, hs, e1]
    refine congrArg some (arrV_congr fun j _ => ?_)
    rw [gi_al, if_pos rfl]
    rfl
  · rw [if_neg hs] at hr; cases hr
theorem aw_newC (X : jX p c cc nL s m args own D cs b meth H0) {N' : Nat} {v : Int32} (hv : ¬ v < 0) (hN : v.toNatClampNeg = N') (hb4 : N' * 4 ≤ 536870912) (hcells : ks + 1 ≤ R.cells) (hslots : sl + N' ≤ R.slots) (hcl : Cond.classLink own index RX1 ∈ GB) (hdg : decode cc pc = .ok (.anewarray index, 3))
    (kk : oty (al M) (gn M) 3 → AWO p l e R s m args below meth c D cs b nL H0 Qf F (al M) (ks + 1) (sl + N') lv (pc + 3) (.ref (b + gn M) :: st)) : AWO p l e R s m args below meth c D cs b nL H0 Qf (if shp (gn M) = (3, N') then F else none) M ks sl lv pc (.int v :: st) := fun r hr H L ls h1 h2 h3 => by
  by_cases hs : shp (gn M) = (3, N')
  · rw [if_pos hs] at hr
    have hK := X.2.2.2.2.2.1.1
    have htc : tc (shp (gn M)) = 3 := by rw [hs]; rfl
    subst hN
    refine W.anew X.1 X.2.1 X.2.2.2.2.1 (X.2.2.2.1 _ hcl) (va_AO.use X.2.2.2.2.2.1.2.2.2.1) rfl hdg rfl hv hb4 hcells hslots fun cA kA comp f1 f2 f3 f4 => ?_
    generalize hH1 : H.push ({ cls := cA, slots := Array.replicate v.toNatClampNeg .null, vm := .none } : Cell) = H1
    have z1 : H1.size = H.size + 1 := by rw [← hH1, Array.size_push]
    have e1 : H1[H.size]? = some (arrV cA v.toNatClampNeg (fun _ => .null)) := by rw [← hH1, Array.getElem?_push_size, ← arrV_new]
    have o1 : ∀ q : Nat, q < H.size → H1[q]? = H[q]? := fun q hq => by rw [← hH1, Array.getElem?_push, if_neg (Nat.ne_of_lt hq)]
    obtain ⟨kA2, comp2, -, -, -, f5⟩ := (hK.2 2 _ rfl).2
    have hcA : cA = cs.2.2.1 := jarr (t := .object RX1) f1 f5
    subst hcA
    have hgo := kk ⟨by rw [gn_al]; omega, htc⟩ r hr H1 L ls (h1.new z1 o1 (by
      rw [ent_cat htc]
      show H1[b + gn M]? = some (vp_cell _ _)
      rw [vp_cell_q, hs, ← h1.1, e1]
      refine congrArg some (arrV_congr fun j _ => ?_)
      rw [gr_al, if_pos rfl]
      rfl)) (h2.old (by rw [z1]; omega) o1) h3
    rw [← h1.1] at hgo
    exact hgo
  · rw [if_neg hs] at hr; cases hr
theorem aw_newT (X : jX p c cc nL s m args own D cs b meth H0) {N' : Nat} {v : Int32} (hv : ¬ v < 0) (hN : v.toNatClampNeg = N') (hb4 : N' * 4 ≤ 536870912) (hcells : ks + 1 ≤ R.cells) (hslots : sl + N' ≤ R.slots) (hcl : Cond.classLink own index RX5 ∈ GB) (hdg : decode cc pc = .ok (.anewarray index, 3))
    (kk : oty (al M) (gn M) 4 → AWO p l e R s m args below meth c D cs b nL H0 Qf F (al M) (ks + 1) (sl + N') lv (pc + 3) (.ref (b + gn M) :: st)) : AWO p l e R s m args below meth c D cs b nL H0 Qf (if shp (gn M) = (4, N') then F else none) M ks sl lv pc (.int v :: st) := fun r hr H L ls h1 h2 h3 => by
  by_cases hs : shp (gn M) = (4, N')
  · rw [if_pos hs] at hr
    have hK := X.2.2.2.2.2.1.1
    have htc : tc (shp (gn M)) = 4 := by rw [hs]; rfl
    subst hN
    refine W.anew X.1 X.2.1 X.2.2.2.2.1 (X.2.2.2.1 _ hcl) (va_AO.use X.2.2.2.2.2.1.2.2.2.2) rfl hdg rfl hv hb4 hcells hslots fun cA kA comp f1 f2 f3 f4 => ?_
    generalize hH1 : H.push ({ cls := cA, slots := Array.replicate v.toNatClampNeg .null, vm := .none } : Cell) = H1
    have z1 : H1.size = H.size + 1 := by rw [← hH1, Array.size_push]
    have e1 : H1[H.size]? = some (arrV cA v.toNatClampNeg (fun _ => .null)) := by rw [← hH1, Array.getElem?_push_size, ← arrV_new]
    have o1 : ∀ q : Nat, q < H.size → H1[q]? = H[q]? := fun q hq => by rw [← hH1, Array.getElem?_push, if_neg (Nat.ne_of_lt hq)]
    obtain ⟨kA2, comp2, -, -, -, f5⟩ := (hK.2 3 _ rfl).2
    have hcA : cA = cs.2.2.2 := jarr (t := .object RX5) f1 f5
    subst hcA
    have hgo := kk ⟨by rw [gn_al]; omega, htc⟩ r hr H1 L ls (h1.new z1 o1 (by
      rw [ent_trk htc]
      show H1[b + gn M]? = some (vp_cell _ _)
      rw [vp_cell_q, hs, ← h1.1, e1]
      refine congrArg some (arrV_congr fun j _ => ?_)
      rw [gr_al, if_pos rfl]
      rfl)) (h2.old (by rw [z1]; omega) o1) h3
    rw [← h1.1] at hgo
    exact hgo
  · rw [if_neg hs] at hr; cases hr
theorem aw_objInit (X : jX p c cc nL s m args own D cs b meth H0) {x : Nat} (hlink : Cond.methodLink own index objectInit ∈ GB) (hinst : Cond.instanceMethod objectInit ∈ GB) (hcode : Cond.code objectInit ⟨#[0xb1]⟩ 1 none ∈ GB) (hdg : decode cc pc = .ok (.invokespecial index, 3)) (hf : 1 ≤ R.frames) (hlo : (st.map fun v => v.category).sum + 12 ≤ R.locals) (kk : AWO p l e R s m args below meth c D cs b nL H0 Qf F M ks sl lv (pc + 3) st) : AWO p l e R s m args below meth c D cs b nL H0 Qf F M ks sl lv pc (.ref x :: st) := fun r hr H L ls h1 h2 h3 =>
  W.objInit X.1 X.2.1 X.2.2.2.2.1 (X.2.2.2.1 _ hlink) (X.2.2.2.1 _ hinst) (X.2.2.2.1 _ hcode) rfl (by rw [X.2.2.1]; exact h3.1) rfl hdg hf (by show 2 * 0 + _ + 12 ≤ _; omega) (kk r hr H L ls h1 h2 h3)
theorem nn_cl {z : Int32} (hz : ¬ z < 0) : z.toInt = (z.toNatClampNeg : Int) := by
  have hz0 : (0 : Int) ≤ z.toInt := by
    have := Int32.not_lt.mp hz
    simpa using Int32.le_iff_toInt_le.mp this
  show z.toInt = ((z.toInt.toNat : Nat) : Int)
  omega
/-- System.arraycopy between two rows of ints -/
theorem aw_copy (X : jX p c cc nL s m args own D cs b meth H0) {k1 : Nat} {sp dp n : Int32} (hlink : Cond.methodLink own index arraycopyName ∈ GB) (hnat : Cond.native arraycopyName ∈ GB) (hstat : Cond.static arraycopyName ∈ GB) (hini : Cond.initialized "java/lang/System" ∈ GB) (hframes : 1 ≤ R.frames) (hlocals : (st.map fun v => v.category).sum + (nativeFrameWords "java/lang/System" "arraycopy" 5 + 11) ≤ R.locals) (hdg : decode cc pc = .ok (.invokestatic index, 3)) (ho : oty M k 1) (ho1 : oty M k1 1)
    (kk : AWO p l e R s m args below meth c D cs b nL H0 Qf F (cpm M k sp k1 dp n) ks sl lv (pc + 3) st) : AWO p l e R s m args below meth c D cs b nL H0 Qf (if 0 ≤ sp ∧ sp < 2000 ∧ 0 ≤ dp ∧ dp < 2000 ∧ 0 ≤ n ∧ n < 2000 ∧ sp + n ≤ ln k ∧ dp + n ≤ ln k1 then F else none) M ks sl lv pc (.int n :: .int dp :: .ref (b + k1) :: .int sp :: .ref (b + k) :: st) := fun r hr H L ls h1 h2 h3 => by
  by_cases hi : 0 ≤ sp ∧ sp < 2000 ∧ 0 ≤ dp ∧ dp < 2000 ∧ 0 ≤ n ∧ n < 2000 ∧ sp + n ≤ ln k ∧ dp + n ≤ ln k1
  · rw [if_pos hi] at hr
    obtain ⟨i1, i2, i3, i4, i5, i6, i7, i8⟩ := hi
    have m1 : ¬ sp < 0 := Int32.not_lt.mpr i1
    have m2 : ¬ dp < 0 := Int32.not_lt.mpr i3
    have m3 : ¬ n < 0 := Int32.not_lt.mpr i5
    obtain ⟨a1, q1, rfl⟩ := nI_of m1
    obtain ⟨a2, q2, rfl⟩ := nI_of m2
    obtain ⟨a3, q3, rfl⟩ := nI_of m3
    have s0 := shp_len k
    have s1 := shp_len k1
    have j1 : a1 < 2000 := (nI_ltI q1 (by omega)).mp i2
    have j2 : a2 < 2000 := (nI_ltI q2 (by omega)).mp i4
    have j3 : a3 < 2000 := (nI_ltI q3 (by omega)).mp i6
    rw [nI_add] at i7 i8
    have j4 : a1 + a3 ≤ (shp k).2 := (nI_leI (by omega) (by omega)).mp i7
    have j5 : a2 + a3 ≤ (shp k1).2 := (nI_leI (by omega) (by omega)).mp i8
    have hK := X.2.2.2.2.2.1.1
    have hc0 := h1.2.1 k ho.1
    have hc1 := h1.2.1 k1 ho1.1
    rw [ent_int ho.2] at hc0
    rw [ent_int ho1.2] at hc1
    have hc0 : H[b + k]? = some (vp_cell cs.1 ((shp k).2, .inl fun j => gi M k (nI j))) := hc0
    have hc1 : H[b + k1]? = some (vp_cell cs.1 ((shp k1).2, .inl fun j => gi M k1 (nI j))) := hc1
    obtain ⟨-, k0', hk0, cm0, hkk0⟩ := (hK.2 0 _ rfl).1 (shp k).2 (fun j => .int (gi M k (nI j)))
    intro T hT Y
    obtain ⟨vm', X', step⟩ := Y.arraycopy X.1 X.2.2.2.2.1 (X.2.2.2.1 _ hlink) (X.2.2.2.1 _ hnat) (X.2.2.2.1 _ hstat) (X.2.2.2.1 _ hini) (src := b + k) (dst := b + k1) (cs := vp_cell cs.1 ((shp k).2, .inl fun j => gi M k (nI j))) (cd := vp_cell cs.1 ((shp k1).2, .inl fun j => gi M k1 (nI j))) (srcPos := nI a1) (destPos := nI a2) (n := nI a3) (by rw [hT]; exact hc0) (by rw [hT]; exact hc1)
      (fun _ h => by cases h) (fun _ h => by cases h) (fun h => by cases h) (fun h => by cases h) hk0 hk0 hkk0 hkk0 (by simp) m1 m2 m3
      (by rw [nn_cl m1, nn_cl m3, nI_clamp q1, nI_clamp q3]; show ¬ _ > ((arrV _ _ (fun j => .int (gi M k (nI j)))).slots.size : Int); rw [arrV_size]; omega)
      (by rw [nn_cl m2, nn_cl m3, nI_clamp q2, nI_clamp q3]; show ¬ _ > ((arrV _ _ (fun j => .int (gi M k1 (nI j)))).slots.size : Int); rw [arrV_size]; omega)
      (fun vm₁ _ i hi => by
        rw [nI_clamp q3] at hi
        rw [nI_clamp q1]
        have e : (vp_cell cs.1 ((shp k).2, .inl fun j => gi M k (nI j))).slots.getD (a1 + i) .null = .int (gi M k (nI (a1 + i))) := by
          show (arrV _ _ (fun j => .int (gi M k (nI j)))).slots.getD _ _ = _
          rw [Array.getD_eq_getD_getElem?, arrV_read _ _ (by omega)]
          rfl
        refine ⟨?_, ?_⟩
        · rw [e]
          rfl
        · rw [e]
          exact trivial)
      (g := F0 m pc ls (.int (nI a3) :: .int (nI a2) :: .ref (b + k1) :: .int (nI a1) :: .ref (b + k) :: st)) rfl (by rw [X.2.2.1]; exact h3.1) (rest := st) rfl (by rw [X.2.1]; exact hdg) hframes (by show 2 * 0 + _ + _ ≤ _; omega)
    have j6 : (nI a1).toNatClampNeg + (nI a3).toNatClampNeg ≤ (shp k).2 := by rw [nI_clamp q1, nI_clamp q3]; exact j4
    have e1 : copied (vp_cell cs.1 ((shp k).2, .inl fun j => gi M k (nI j))) (vp_cell cs.1 ((shp k1).2, .inl fun j => gi M k1 (nI j))) (nI a1) (nI a2) (nI a3) = vp_cell cs.1 ((shp k1).2, .inl (va_cpy (fun j => gi M k (nI j)) (fun j => gi M k1 (nI j)) (nI a1).toNatClampNeg (nI a2).toNatClampNeg (nI a3).toNatClampNeg)) := va_copied (fun z => .int z) cs.1 cs.1 (fun j => gi M k (nI j)) (fun j => gi M k1 (nI j)) j6
    rw [e1, nI_clamp q1, nI_clamp q2, nI_clamp q3] at X' step
    have hl : b + k1 < H.size := (Array.getElem?_eq_some_iff.mp hc1).1
    have hcell : vp_cell cs.1 ((shp k1).2, .inl (va_cpy (fun j => gi M k (nI j)) (fun j => gi M k1 (nI j)) a1 a2 a3)) = vp_cell cs.1 ((shp k1).2, .inl fun j => gi (cpm M k (nI a1) k1 (nI a2) (nI a3)) k1 (nI j)) := by
      rw [vp_cell_i, vp_cell_i]
      refine arrV_congr fun j hj => ?_
      rw [gi_cpm, nI_add]
      dsimp only [va_cpy]
      by_cases hcc : a2 ≤ j ∧ j < a2 + a3
      · rw [if_pos hcc, if_pos ⟨rfl, nI_le hcc.1 (by omega), nI_lt hcc.2 (by omega)⟩, pk_sub hcc.1, nI_add]
      · rw [if_neg hcc, if_neg (fun q => hcc ⟨(nI_leI (by omega) (by omega)).mp q.2.1, (nI_ltI (by omega) (by omega)).mp q.2.2⟩)]
    rw [hcell] at X' step
    generalize hE : vp_cell cs.1 ((shp k1).2, .inl fun j => gi (cpm M k (nI a1) k1 (nI a2) (nI a3)) k1 (nI j)) = E at X' step
    have hheap : ((T.setVm vm').setCell (b + k1) E).heap = H.setIfInBounds (b + k1) E := by rw [← hT]; rfl
    have oq : ∀ q : Nat, q ≠ b + k1 → (H.setIfInBounds (b + k1) E)[q]? = H[q]? := fun q hq => by simp [Array.getElem?_setIfInBounds, Ne.symm hq]
    obtain ⟨t, w1, w2⟩ := kk r hr _ _ ls (h1.set (M' := cpm M k (nI a1) k1 (nI a2) (nI a3)) (by simp) oq rfl (fun i _ hi => ent_cpm hi) (by
        rw [ent_int ho1.2]
        show (H.setIfInBounds (b + k1) E)[b + k1]? = some (vp_cell _ _)
        rw [hE]
        simp [Array.getElem?_setIfInBounds, hl]) (jT_cpm h1.2.2 _ _ _ _ _)) ⟨by simp; exact h2.1, fun q g1 g2 => by
        rw [oq q (fun e => g2 (by rw [e]; exact Nat.le_add_right b k1))]
        exact h2.2.1 q g1 g2, fun q hq => by
        rcases List.mem_append.mp hq with h | h
        · exact h2.2.2 q h
        · obtain ⟨z, -, hz⟩ := List.mem_map.mp h
          rw [← hz]
          exact Nat.le_add_right b k1⟩ h3 _ hheap X'
    exact ⟨t, step t w1, w2⟩
  · rw [if_neg hi] at hr; cases hr
end ROWS3
end
section
/-! ends, calls, contracts -/
def evI : Int32 → Option Value := fun x => some (.int x)
def evL : Int64 → Option Value := fun x => some (.long x)
def evB : Bool → Option Value := fun x => some (.int (bI x))
def evV : Unit → Option Value := fun _ => none
def evR (b : Nat) : Option Nat → Option Value := fun o => some (vr b o)
def jQ {ρ : Type} (D : va_G) (cs : JC) (b : Nat) (ev : ρ → Option Value) (res : ρ × JM) : Array Value → State → Outcome → State → Prop := fun _ st oc t => (oc = .returned (ev res.1) ∧ jR D cs b res.2 t.heap ∧ ∀ k : Nat, ev res.1 = some (.ref (b + k)) → oty res.2 k 11) ∧ va_F (fun q => b ≤ q) st t
/-- a contract: from the memory M the method answers res.1 and leaves the memory res.2 -/
def CTy {ρ : Type} (l : Launch) (y : MethodName) (ws : List Cond) (rm : Room) (D : va_G) (cs : JC) (b : Nat) (ev : ρ → Option Value) (av : List Value) (M : JM) (mc ms : Nat) (res : ρ × JM) : Prop :=
  Met l y ws rm (va_Pc av (fun U => jR D cs b M U.heap ∧ jKn D cs U)) (jQ D cs b ev res) mc ms (fun q => b ≤ q)
def jE {ρ : Type} (below : List Frame) (D : va_G) (cs : JC) (b : Nat) (ev : ρ → Option Value) (args : Array Value) (s : State) (mc ms : Nat) : ρ × JM → State → Prop := fun res => MQ below (jQ D cs b ev res) args s mc ms (fun q => b ≤ q)
section ROWS4
variable {ρ : Type} {p : Program} {l : Launch} {e : Env} {R : Room} {s : State} {m : MethodId} {args : Array Value} {below : List Frame} {meth : Method} {c : Code} {D : va_G} {cs : JC} {b nL : Nat} {H0 : Heap} {Qf : ρ × JM → State → Prop} {F : Option (ρ × JM)} {M : JM} {ks sl mc ms : Nat} {lv lv' : List (Nat × Value)} {pc : Nat} {st : List Value} {cc : ByteArray} {own : String}
theorem aw_iret (X : jX p c cc nL s m args own D cs b meth s.heap) (hr : meth.sig.returnType = some .int) {x : Int32} (hdg : decode cc pc = .ok (.ireturn, 1)) (h1 : ks ≤ mc) (h2 : sl ≤ ms) : AWO p l e R s m args below meth c D cs b nL s.heap (jE below D cs b evI args s mc ms) (some (x, M)) M ks sl lv pc [.int x] := fun r hres H L ls g1 g2 g3 => by
  cases hres
  exact W.widen h1 h2 (W.iret X.1 X.2.1 hr (fun t ht _ => ⟨⟨rfl, by rw [ht]; exact g1, fun k h => by cases h⟩, va_S.F g2 ht⟩) g2.2.2 hdg X.2.2.2.2.2.2.1)
theorem aw_zret (X : jX p c cc nL s m args own D cs b meth s.heap) (hr : meth.sig.returnType = some .boolean) {x : Int32} (bb : Bool) (hx : x = bI bb) (hdg : decode cc pc = .ok (.ireturn, 1)) (h1 : ks ≤ mc) (h2 : sl ≤ ms) : AWO p l e R s m args below meth c D cs b nL s.heap (jE below D cs b evB args s mc ms) (some (bb, M)) M ks sl lv pc [.int x] := fun r hres H L ls g1 g2 g3 => by
  cases hres
  exact W.widen h1 h2 (W.zret X.1 X.2.1 hr (by rw [hx]; cases bb <;> rfl) (fun t ht _ => ⟨⟨by rw [hx]; rfl, by rw [ht]; exact g1, fun k h => by cases h⟩, va_S.F g2 ht⟩) g2.2.2 hdg X.2.2.2.2.2.2.1)
theorem aw_lret (X : jX p c cc nL s m args own D cs b meth s.heap) (hr : meth.sig.returnType = some .long) {x : Int64} (hdg : decode cc pc = .ok (.lreturn, 1)) (h1 : ks ≤ mc) (h2 : sl ≤ ms) : AWO p l e R s m args below meth c D cs b nL s.heap (jE below D cs b evL args s mc ms) (some (x, M)) M ks sl lv pc [.long x] := fun r hres H L ls g1 g2 g3 => by
  cases hres
  exact W.widen h1 h2 (W.lret X.1 X.2.1 hr (fun t ht _ => ⟨⟨rfl, by rw [ht]; exact g1, fun k h => by cases h⟩, va_S.F g2 ht⟩) g2.2.2 hdg X.2.2.2.2.2.2.1)
theorem aw_vret (X : jX p c cc nL s m args own D cs b meth s.heap) (hr : meth.sig.returnType = none) (hdg : decode cc pc = .ok (.return_, 1)) (h1 : ks ≤ mc) (h2 : sl ≤ ms) : AWO p l e R s m args below meth c D cs b nL s.heap (jE below D cs b evV args s mc ms) (some ((), M)) M ks sl lv pc [] := fun r hres H L ls g1 g2 g3 => by
  cases hres
  exact W.widen h1 h2 (W.vret X.1 X.2.1 hr (fun t ht _ => ⟨⟨rfl, by rw [ht]; exact g1, fun k h => by cases h⟩, va_S.F g2 ht⟩) g2.2.2 hdg X.2.2.2.2.2.2.1)
theorem vr_inj {o : Option Nat} {k : Nat} (h : evR b o = some (.ref (b + k))) : o = some k := by
  cases o with
  | none => cases h
  | some x =>
    have h2 : b + x = b + k := by injection h with h; injection h with h
    rw [show x = k by omega]
theorem aw_aret (X : jX p c cc nL s m args own D cs b meth s.heap) {cn : String} (hr : meth.sig.returnType = some (.object cn)) (o : Option Nat) {v : Value} (hv : v = vr b o) (ho : ∀ k, o = some k → oty M k 11) (hdg : decode cc pc = .ok (.areturn, 1)) (h1 : ks ≤ mc) (h2 : sl ≤ ms) : AWO p l e R s m args below meth c D cs b nL s.heap (jE below D cs b (evR b) args s mc ms) (some (o, M)) M ks sl lv pc [v] := fun r hres H L ls g1 g2 g3 => by
  cases hres
  subst hv
  exact W.widen h1 h2 (W.aret X.1 X.2.1 hr (Or.inl ⟨cn, rfl⟩) (by cases o with | none => exact Or.inl rfl | some a => exact Or.inr ⟨_, rfl⟩) (fun t ht _ => ⟨⟨rfl, by rw [ht]; exact g1, fun k h => ho k (vr_inj h)⟩, va_S.F g2 ht⟩) g2.2.2 hdg X.2.2.2.2.2.2.1)
theorem ct_of {y : MethodName} {ret : Option FieldType} {ev : ρ → Option Value} {av : List Value} {res : ρ × JM} (lv0 : List (Nat × Value)) (hy : plainName y.cls = true) (hlv : lv_args 0 av = lv0) (hsl : (lg_sl av).length ≤ nL) (hF : F = some res)
    (body : ∀ (p : Program) (e : Env) (s : State) (m : MethodId) (args : Array Value) (below : List Frame) (meth : Method) (c : Code), jX p c cc nL s m args y.cls D cs b meth s.heap → meth.sig.returnType = ret → meth.name = y.name → AWO p l e R s m args below meth c D cs b nL s.heap (jE below D cs b ev args s mc ms) F M 0 0 lv0 0 []) : CTy l y (.code y cc nL ret :: GB) R D cs b ev av M mc ms res := by
  refine Met.ofW (cc := cc) (maxL := nL) (ret := ret) hy rfl ?_
  intro p e s m args below meth c s₁ B hml hv
  obtain ⟨rfl, hR, hKn⟩ := hv
  have hts := atoms_spec (ws := .code y cc nL ret :: GB) B.pre
  have X : jX p c cc nL s m av.toArray y.cls D cs b meth s.heap := ⟨B.exec, B.bytes, hml, fun w hw => hts w (List.mem_cons_of_mem _ hw), findClass_of_methodNamed B.named, hKn, B.notSynchronized, by rw [hR.1]; exact Nat.le_add_right b _⟩
  rw [lg_entry_eq]
  exact body p e s m _ below meth c X B.returns (name_of_methodNamed B.named B.method).1 res hF s.heap [] _ hR va_S.rf (by rw [← hlv]; exact lv_entry av hsl)
/-- behind a call -/
theorem aw_call {σ : Type} {G : Option (σ × JM)} {K : σ → JM → Option (ρ × JM)} {ev : σ → Option Value} {av rest : List Value} (hrun : ∀ q, G = some q → ∀ (H : Heap) (locs : List Loc) (ls : Array Slot), jR D cs b M H → lv_has ls nL lv → va_Run p l e R s m args below meth c H locs ks sl mc ms (F0 m pc ls st) rest (jQ D cs b ev q av.toArray) (fun q => b ≤ q))
    (kk : ∀ (r : σ) (M' : JM), gn M ≤ gn M' → (∀ k : Nat, ev r = some (.ref (b + k)) → oty M' k 11) → AWO p l e R s m args below meth c D cs b nL H0 Qf (K r M') M' (ks + mc) (sl + ms) lv (pc + 3) ((ev r).toList ++ rest)) : AWO p l e R s m args below meth c D cs b nL H0 Qf (ob G K) M ks sl lv pc st := fun r hres H L ls h1 h2 h3 => by
  cases hG : G with
  | none => rw [hG] at hres; cases hres
  | some q =>
    rw [hG, ob_some] at hres
    intro T hT Y
    obtain ⟨v, st₀, t, T', L', e0, Y', hL, e1, e2, ⟨⟨hv, hjr, hto⟩, hF⟩, hgo⟩ := hrun q hG H L ls h1 h3 T hT Y
    have hv2 : v = ev q.1 := by cases hv; rfl
    subst hv2
    unfold va_F at hF
    rw [e0] at hF
    have hsz : gn M ≤ gn q.2 := by
      have := hF.1
      rw [h1.1, hjr.1] at this
      omega
    have hq : q = (q.1, q.2) := rfl
    obtain ⟨t2, w1, w2⟩ := kk q.1 q.2 hsz hto r hres T'.heap (L ++ L') ls (by rw [e1]; exact hjr) ⟨Nat.le_trans h2.1 (by rw [e1]; exact hF.1), fun x g1 g2 => by rw [e1, hF.2 x (Nat.lt_of_lt_of_le g1 h2.1) g2]; exact h2.2.1 x g1 g2, fun x hx => by
      rcases List.mem_append.mp hx with h | h
      · exact h2.2.2 x h
      · exact hL x h⟩ h3 T' rfl Y'
    exact ⟨t2, hgo t2 w1, w2⟩
theorem jFB {av : List Value} : FrameBlind (va_Pc av (fun U => jR D cs b M U.heap ∧ jKn D cs U)) := fun _ U _ _ q => ⟨q.1, q.2.1, jKn.same (u := U) rfl q.2.2⟩
variable {C : String} {T : u_T} {N ci index k n maxL : Nat} {y : MethodName} {bytes : ByteArray} {ret : Option FieldType} {rm : Room}
theorem jGood (hc : Cond.code y bytes maxL ret ∈ GB) : GoodIn GB (.code y bytes maxL ret :: GB) := fun w hw => by
  have hm : w ∈ GB := by
    rcases List.mem_cons.mp hw with h | h
    · rw [h]; exact hc
    · exact h
  exact ⟨hm, good_of_word (List.mem_filter.mp hm).2⟩
variable {σ : Type} {G : Option (σ × JM)} {K : σ → JM → Option (ρ × JM)} {ev : σ → Option Value}
def jHd (y : MethodName) (n : Nat) : Prop := y.cls ≠ "java/lang/invoke/MethodHandle" ∧ y.cls ≠ "java/lang/invoke/VarHandle" ∧ (parseMethodDescriptor y.desc).map (fun d => d.parameters.length) = some n
def jRm (rm : Room) (maxL : Nat) (R : Room) : Prop := rm.frames + 1 ≤ R.frames ∧ 8 + (maxL + 11) + rm.locals ≤ R.locals
theorem aw_callV (X : jX p c cc nL s m args own D cs b meth H0) (As rest : List Value) (hst : st = As.reverse ++ .ref (b + k) :: rest) (hc : vwCl[ci]? = some (C, T, N)) (w1 : Cond.methodLink own index y ∈ GB) (w2 : Cond.instanceMethod y ∈ GB) (w3 : Cond.selects C y y ∈ GB) (w4 : Cond.code y bytes maxL ret ∈ GB) (w5 : Cond.initialized y.cls ∈ GB) (hd : jHd y n) (hn : As.length = n) (hR : jRm rm maxL R) (hW : (rest.map fun v => v.category).sum ≤ 8) (hroom : ks + rm.cells ≤ R.cells ∧ sl + rm.slots ≤ R.slots) (hdg : decode cc pc = .ok (.invokevirtual index, 3)) (ho : oty M k (10 + ci))
    (hM : ∀ q, G = some q → CTy l y (.code y bytes maxL ret :: GB) rm D cs b ev (.ref (b + k) :: As) M rm.cells rm.slots q) (kk : ∀ (r : σ) (M' : JM), gn M ≤ gn M' → (∀ k : Nat, ev r = some (.ref (b + k)) → oty M' k 11) → AWO p l e R s m args below meth c D cs b nL H0 Qf (K r M') M' (ks + rm.cells) (sl + rm.slots) lv (pc + 3) ((ev r).toList ++ rest)) : AWO p l e R s m args below meth c D cs b nL H0 Qf (ob G K) M ks sl lv pc st := by
  subst hst
  refine aw_call (av := .ref (b + k) :: As) (fun q hq H L ls h1 h3 => ?_) kk
  have hat := h1.2.1 k ho.1
  rw [ent_obj ho.2] at hat
  obtain ⟨r', hr', cell, g1, g2, g3, -⟩ := hat
  refine va_runV (As := As) (rest := rest) (b := b + k) (C := C) ⟨X.1, X.2.1, X.2.2.1, X.2.2.2.2.1, X.2.2.2.1⟩ (hM q hq) ⟨callB_of n X.2.2.2.1 (jGood w4) rfl rfl rfl (X.2.2.2.1 _ w5) (X.2.2.2.1 _ w1) hd hR, X.2.2.2.1 _ w2, X.2.2.2.1 _ w3⟩ ⟨jFB, ⟨cell, g1, by rw [g3]; rfl, by rw [g2]; exact (X.2.2.2.2.2.1.1.1 ci _ hc).2.1⟩, fun U hU hW' => ⟨rfl, by rw [hU]; exact h1, jKn.warm hW' X.2.2.2.2.2.1⟩⟩ rfl hn h3.1 rfl (lv_room hW) hdg hroom
theorem aw_callI (X : jX p c cc nL s m args own D cs b meth H0) (As rest : List Value) (hst : st = As.reverse ++ .ref (b + k) :: rest) (w1 : Cond.methodLink own index y ∈ GB) (w2 : Cond.instanceMethod y ∈ GB) (w4 : Cond.code y bytes maxL none ∈ GB) (w5 : Cond.initialized y.cls ∈ GB) (hy1 : y.name = "<init>") (hd : jHd y n) (hn : As.length = n) (hR : jRm rm maxL R) (hW : (rest.map fun v => v.category).sum ≤ 8) (hroom : ks + rm.cells ≤ R.cells ∧ sl + rm.slots ≤ R.slots) (hdg : decode cc pc = .ok (.invokespecial index, 3))
    (hM : ∀ q, G = some q → CTy l y (.code y bytes maxL none :: GB) rm D cs b ev (.ref (b + k) :: As) M rm.cells rm.slots q) (kk : ∀ (r : σ) (M' : JM), gn M ≤ gn M' → (∀ k : Nat, ev r = some (.ref (b + k)) → oty M' k 11) → AWO p l e R s m args below meth c D cs b nL H0 Qf (K r M') M' (ks + rm.cells) (sl + rm.slots) lv (pc + 3) ((ev r).toList ++ rest)) : AWO p l e R s m args below meth c D cs b nL H0 Qf (ob G K) M ks sl lv pc st := by
  subst hst
  refine aw_call (av := .ref (b + k) :: As) (fun q hq H L ls h1 h3 => ?_) kk
  refine va_runI (As := As) (rest := rest) (b := b + k) ⟨X.1, X.2.1, X.2.2.1, X.2.2.2.2.1, X.2.2.2.1⟩ (hM q hq) ⟨callB_of n X.2.2.2.1 (jGood w4) rfl rfl rfl (X.2.2.2.1 _ w5) (X.2.2.2.1 _ w1) hd hR, hy1, X.2.2.2.1 _ w2⟩ ⟨jFB, fun U hU hW' => ⟨rfl, by rw [hU]; exact h1, jKn.warm hW' X.2.2.2.2.2.1⟩⟩ rfl hn h3.1 rfl (lv_room hW) hdg hroom
theorem aw_callS (X : jX p c cc nL s m args own D cs b meth H0) (As rest : List Value) (hst : st = As.reverse ++ rest) (w1 : Cond.methodLink own index y ∈ GB) (w2 : Cond.static y ∈ GB) (w4 : Cond.code y bytes maxL ret ∈ GB) (w5 : Cond.initialized y.cls ∈ GB) (hd : jHd y n) (hn : As.length = n) (hR : jRm rm maxL R) (hW : (rest.map fun v => v.category).sum ≤ 8) (hroom : ks + rm.cells ≤ R.cells ∧ sl + rm.slots ≤ R.slots) (hdg : decode cc pc = .ok (.invokestatic index, 3))
    (hM : ∀ q, G = some q → CTy l y (.code y bytes maxL ret :: GB) rm D cs b ev As M rm.cells rm.slots q) (kk : ∀ (r : σ) (M' : JM), gn M ≤ gn M' → (∀ k : Nat, ev r = some (.ref (b + k)) → oty M' k 11) → AWO p l e R s m args below meth c D cs b nL H0 Qf (K r M') M' (ks + rm.cells) (sl + rm.slots) lv (pc + 3) ((ev r).toList ++ rest)) : AWO p l e R s m args below meth c D cs b nL H0 Qf (ob G K) M ks sl lv pc st := by
  subst hst
  refine aw_call (av := As) (fun q hq H L ls h1 h3 => ?_) kk
  refine va_runS (As := As) (rest := rest) ⟨X.1, X.2.1, X.2.2.1, X.2.2.2.2.1, X.2.2.2.1⟩ (hM q hq) ⟨callB_of n X.2.2.2.1 (jGood w4) rfl rfl rfl (X.2.2.2.1 _ w5) (X.2.2.2.1 _ w1) hd hR, X.2.2.2.1 _ w2⟩ ⟨jFB, fun U hU hW' => ⟨rfl, by rw [hU]; exact h1, jKn.warm hW' X.2.2.2.2.2.1⟩⟩ rfl hn h3.1 rfl (lv_room hW) hdg hroom
theorem aw_callSN (X : jX p c cc nL s m args own D cs b meth H0) (host : String) (As rest : List Value) (hst : st = As.reverse ++ rest) (w1 : va_Nw (.methodLinkNest own index y host) s) (w2 : Cond.static y ∈ GB) (w4 : Cond.code y bytes maxL ret ∈ GB) (w5 : Cond.initialized y.cls ∈ GB) (hd : jHd y n) (hn : As.length = n) (hR : jRm rm maxL R) (hW : (rest.map fun v => v.category).sum ≤ 8) (hroom : ks + rm.cells ≤ R.cells ∧ sl + rm.slots ≤ R.slots) (hdg : decode cc pc = .ok (.invokestatic index, 3))
    (hM : ∀ q, G = some q → CTy l y (.code y bytes maxL ret :: GB) rm D cs b ev As M rm.cells rm.slots q) (kk : ∀ (r : σ) (M' : JM), gn M ≤ gn M' → (∀ k : Nat, ev r = some (.ref (b + k)) → oty M' k 11) → AWO p l e R s m args below meth c D cs b nL H0 Qf (K r M') M' (ks + rm.cells) (sl + rm.slots) lv (pc + 3) ((ev r).toList ++ rest)) : AWO p l e R s m args below meth c D cs b nL H0 Qf (ob G K) M ks sl lv pc st := by
  subst hst
  refine aw_call (av := As) (fun q hq H L ls h1 h3 => ?_) kk
  refine va_runSN (As := As) (rest := rest) ⟨X.1, X.2.1, X.2.2.1, X.2.2.2.2.1, X.2.2.2.1⟩ (hM q hq) ⟨va_cnB n X.2.2.2.1 (jGood w4) rfl rfl rfl w1 (X.2.2.2.1 _ w5) hd hR, X.2.2.2.1 _ w2, trivial⟩ ⟨jFB, fun U hU hW' => ⟨rfl, by rw [hU]; exact h1, jKn.warm hW' X.2.2.2.2.2.1⟩⟩ rfl hn h3.1 rfl (lv_room hW) hdg hroom
theorem aw_callIN (X : jX p c cc nL s m args own D cs b meth H0) (host : String) (As rest : List Value) (hst : st = As.reverse ++ .ref (b + k) :: rest) (w1 : va_Nw (.methodLinkNest own index y host) s) (w2 : Cond.instanceMethod y ∈ GB) (w4 : Cond.code y bytes maxL none ∈ GB) (w5 : Cond.initialized y.cls ∈ GB) (hy1 : y.name = "<init>") (hd : jHd y n) (hn : As.length = n) (hR : jRm rm maxL R) (hW : (rest.map fun v => v.category).sum ≤ 8) (hroom : ks + rm.cells ≤ R.cells ∧ sl + rm.slots ≤ R.slots) (hdg : decode cc pc = .ok (.invokespecial index, 3))
    (hM : ∀ q, G = some q → CTy l y (.code y bytes maxL none :: GB) rm D cs b ev (.ref (b + k) :: As) M rm.cells rm.slots q) (kk : ∀ (r : σ) (M' : JM), gn M ≤ gn M' → (∀ k : Nat, ev r = some (.ref (b + k)) → oty M' k 11) → AWO p l e R s m args below meth c D cs b nL H0 Qf (K r M') M' (ks + rm.cells) (sl + rm.slots) lv (pc + 3) ((ev r).toList ++ rest)) : AWO p l e R s m args below meth c D cs b nL H0 Qf (ob G K) M ks sl lv pc st := by
  subst hst
  refine aw_call (av := .ref (b + k) :: As) (fun q hq H L ls h1 h3 => ?_) kk
  refine va_runIN (As := As) (rest := rest) (b := b + k) ⟨X.1, X.2.1, X.2.2.1, X.2.2.2.2.1, X.2.2.2.1⟩ (hM q hq) ⟨va_cnB n X.2.2.2.1 (jGood w4) rfl rfl rfl w1 (X.2.2.2.1 _ w5) hd hR, hy1, X.2.2.2.1 _ w2⟩ ⟨jFB, fun U hU hW' => ⟨rfl, by rw [hU]; exact h1, jKn.warm hW' X.2.2.2.2.2.1⟩⟩ rfl hn h3.1 rfl (lv_room hW) hdg hroom
end ROWS4
end
