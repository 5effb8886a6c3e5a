-- printed by the claim's program: PART A of the skeleton, names, tables, the law's words
-- ===== PART A: goes FIRST, ahead of the names: the tables' words, and 'selects' of the private methods out of them =====
/-- a private method of a class that the tables say can be made, by its rows of tables_1 -/
def lw_okq (q : MethodName × Nat) : Prop := (q.1.cls ≠ "java/lang/invoke/MethodHandle" ∧ q.1.cls ≠ "java/lang/invoke/VarHandle") ∧ Cond.instantiable q.1.cls q.2 ∈ tables_1 ∧ Cond.privateMethod q.1 ∈ tables_1 ∧ Cond.instanceMethod q.1 ∈ tables_1
theorem lw_p0 : lw_okq (⟨"ReportBlocks", "indexOfNumber", "(I)I"⟩, 10) := ⟨⟨by decide +kernel, by decide +kernel⟩, List.mem_of_getElem? (i := 14) (by decide +kernel), List.mem_of_getElem? (i := 228) (by decide +kernel), List.mem_of_getElem? (i := 229) (by decide +kernel)⟩
theorem lw_p1 : lw_okq (⟨"ReportBlocks", "categoryAt", "(I)LReportBlocks$Category;"⟩, 10) := ⟨⟨by decide +kernel, by decide +kernel⟩, List.mem_of_getElem? (i := 14) (by decide +kernel), List.mem_of_getElem? (i := 270) (by decide +kernel), List.mem_of_getElem? (i := 271) (by decide +kernel)⟩
theorem lw_p2 : lw_okq (⟨"ReportBlocks", "isInUse", "(I)Z"⟩, 10) := ⟨⟨by decide +kernel, by decide +kernel⟩, List.mem_of_getElem? (i := 14) (by decide +kernel), List.mem_of_getElem? (i := 280) (by decide +kernel), List.mem_of_getElem? (i := 281) (by decide +kernel)⟩
theorem lw_p3 : lw_okq (⟨"ReportBlocks", "passBlock", "()V"⟩, 10) := ⟨⟨by decide +kernel, by decide +kernel⟩, List.mem_of_getElem? (i := 14) (by decide +kernel), List.mem_of_getElem? (i := 347) (by decide +kernel), List.mem_of_getElem? (i := 348) (by decide +kernel)⟩
theorem lw_p4 : lw_okq (⟨"ReportBlocks$Reader", "passBits", "(I)I"⟩, 6) := ⟨⟨by decide +kernel, by decide +kernel⟩, List.mem_of_getElem? (i := 41) (by decide +kernel), List.mem_of_getElem? (i := 363) (by decide +kernel), List.mem_of_getElem? (i := 364) (by decide +kernel)⟩
theorem lw_p5 : lw_okq (⟨"ReportBlocks$Reader", "lookForPlaces", "(II)V"⟩, 6) := ⟨⟨by decide +kernel, by decide +kernel⟩, List.mem_of_getElem? (i := 41) (by decide +kernel), List.mem_of_getElem? (i := 368) (by decide +kernel), List.mem_of_getElem? (i := 369) (by decide +kernel)⟩
theorem lw_p6 : lw_okq (⟨"ReportBlocks$Reader", "pass", "(I)V"⟩, 6) := ⟨⟨by decide +kernel, by decide +kernel⟩, List.mem_of_getElem? (i := 41) (by decide +kernel), List.mem_of_getElem? (i := 383) (by decide +kernel), List.mem_of_getElem? (i := 384) (by decide +kernel)⟩
theorem lw_p7 : lw_okq (⟨"ReportBlocks$Reader", "passGoing", "()V"⟩, 6) := ⟨⟨by decide +kernel, by decide +kernel⟩, List.mem_of_getElem? (i := 41) (by decide +kernel), List.mem_of_getElem? (i := 387) (by decide +kernel), List.mem_of_getElem? (i := 388) (by decide +kernel)⟩
theorem lw_p8 : lw_okq (⟨"ReportBlocks$Reader", "passAgain", "(I)V"⟩, 6) := ⟨⟨by decide +kernel, by decide +kernel⟩, List.mem_of_getElem? (i := 41) (by decide +kernel), List.mem_of_getElem? (i := 391) (by decide +kernel), List.mem_of_getElem? (i := 392) (by decide +kernel)⟩
theorem lw_p9 : lw_okq (⟨"ReportBlocks$Reader", "passMade", "(I)V"⟩, 6) := ⟨⟨by decide +kernel, by decide +kernel⟩, List.mem_of_getElem? (i := 41) (by decide +kernel), List.mem_of_getElem? (i := 395) (by decide +kernel), List.mem_of_getElem? (i := 396) (by decide +kernel)⟩
theorem lw_p10 : lw_okq (⟨"ReportBlocks", "isRecord", "(I)Z"⟩, 10) := ⟨⟨by decide +kernel, by decide +kernel⟩, List.mem_of_getElem? (i := 14) (by decide +kernel), List.mem_of_getElem? (i := 434) (by decide +kernel), List.mem_of_getElem? (i := 435) (by decide +kernel)⟩
theorem lw_p11 : lw_okq (⟨"ReportBlocks", "partNumber", "(LReportBlocks$Category;III)J"⟩, 10) := ⟨⟨by decide +kernel, by decide +kernel⟩, List.mem_of_getElem? (i := 14) (by decide +kernel), List.mem_of_getElem? (i := 461) (by decide +kernel), List.mem_of_getElem? (i := 462) (by decide +kernel)⟩
theorem lw_p12 : lw_okq (⟨"ReportBlocksModel", "find", "(I)I"⟩, 46) := ⟨⟨by decide +kernel, by decide +kernel⟩, List.mem_of_getElem? (i := 580) (by decide +kernel), List.mem_of_getElem? (i := 733) (by decide +kernel), List.mem_of_getElem? (i := 734) (by decide +kernel)⟩
theorem lw_p13 : lw_okq (⟨"ReportBlocksModel", "becomes", "(IIII)V"⟩, 46) := ⟨⟨by decide +kernel, by decide +kernel⟩, List.mem_of_getElem? (i := 580) (by decide +kernel), List.mem_of_getElem? (i := 737) (by decide +kernel), List.mem_of_getElem? (i := 738) (by decide +kernel)⟩
theorem lw_p14 : lw_okq (⟨"ReportBlocksModel", "isCategory", "(I)Z"⟩, 46) := ⟨⟨by decide +kernel, by decide +kernel⟩, List.mem_of_getElem? (i := 580) (by decide +kernel), List.mem_of_getElem? (i := 745) (by decide +kernel), List.mem_of_getElem? (i := 746) (by decide +kernel)⟩
theorem lw_p15 : lw_okq (⟨"ReportBlocksModel", "isInUse", "(I)Z"⟩, 46) := ⟨⟨by decide +kernel, by decide +kernel⟩, List.mem_of_getElem? (i := 580) (by decide +kernel), List.mem_of_getElem? (i := 752) (by decide +kernel), List.mem_of_getElem? (i := 753) (by decide +kernel)⟩
def lw_privs_1 : List (MethodName × Nat) := [(⟨"ReportBlocks", "indexOfNumber", "(I)I"⟩, 10), (⟨"ReportBlocks", "categoryAt", "(I)LReportBlocks$Category;"⟩, 10), (⟨"ReportBlocks", "isInUse", "(I)Z"⟩, 10), (⟨"ReportBlocks", "passBlock", "()V"⟩, 10), (⟨"ReportBlocks$Reader", "passBits", "(I)I"⟩, 6), (⟨"ReportBlocks$Reader", "lookForPlaces", "(II)V"⟩, 6), (⟨"ReportBlocks$Reader", "pass", "(I)V"⟩, 6), (⟨"ReportBlocks$Reader", "passGoing", "()V"⟩, 6), (⟨"ReportBlocks$Reader", "passAgain", "(I)V"⟩, 6), (⟨"ReportBlocks$Reader", "passMade", "(I)V"⟩, 6), (⟨"ReportBlocks", "isRecord", "(I)Z"⟩, 10), (⟨"ReportBlocks", "partNumber", "(LReportBlocks$Category;III)J"⟩, 10), (⟨"ReportBlocksModel", "find", "(I)I"⟩, 46), (⟨"ReportBlocksModel", "becomes", "(IIII)V"⟩, 46), (⟨"ReportBlocksModel", "isCategory", "(I)Z"⟩, 46), (⟨"ReportBlocksModel", "isInUse", "(I)Z"⟩, 46)]
theorem lw_r1 : ∀ q ∈ lw_privs_1, lw_okq q := List.forall_mem_cons.mpr ⟨lw_p0, List.forall_mem_cons.mpr ⟨lw_p1, List.forall_mem_cons.mpr ⟨lw_p2, List.forall_mem_cons.mpr ⟨lw_p3, List.forall_mem_cons.mpr ⟨lw_p4, List.forall_mem_cons.mpr ⟨lw_p5, List.forall_mem_cons.mpr ⟨lw_p6, List.forall_mem_cons.mpr ⟨lw_p7, List.forall_mem_cons.mpr ⟨lw_p8, List.forall_mem_cons.mpr ⟨lw_p9, List.forall_mem_cons.mpr ⟨lw_p10, List.forall_mem_cons.mpr ⟨lw_p11, List.forall_mem_cons.mpr ⟨lw_p12, List.forall_mem_cons.mpr ⟨lw_p13, List.forall_mem_cons.mpr ⟨lw_p14, List.forall_mem_cons.mpr ⟨lw_p15, fun _ h => absurd h List.not_mem_nil⟩⟩⟩⟩⟩⟩⟩⟩⟩⟩⟩⟩⟩⟩⟩⟩
theorem lw_p16 : lw_okq (⟨"ReportBlocksModel", "isFixed", "(III)Z"⟩, 46) := ⟨⟨by decide +kernel, by decide +kernel⟩, List.mem_of_getElem? (i := 580) (by decide +kernel), List.mem_of_getElem? (i := 764) (by decide +kernel), List.mem_of_getElem? (i := 765) (by decide +kernel)⟩
theorem lw_p17 : lw_okq (⟨"ReportBlocksModel", "readBlock", "()I"⟩, 46) := ⟨⟨by decide +kernel, by decide +kernel⟩, List.mem_of_getElem? (i := 580) (by decide +kernel), List.mem_of_getElem? (i := 788) (by decide +kernel), List.mem_of_getElem? (i := 789) (by decide +kernel)⟩
theorem lw_p18 : lw_okq (⟨"ReportBlocksModel", "fails", "(II)V"⟩, 46) := ⟨⟨by decide +kernel, by decide +kernel⟩, List.mem_of_getElem? (i := 580) (by decide +kernel), List.mem_of_getElem? (i := 792) (by decide +kernel), List.mem_of_getElem? (i := 793) (by decide +kernel)⟩
theorem lw_p19 : lw_okq (⟨"ReportBlocksModel", "readRecord", "(I)V"⟩, 46) := ⟨⟨by decide +kernel, by decide +kernel⟩, List.mem_of_getElem? (i := 580) (by decide +kernel), List.mem_of_getElem? (i := 796) (by decide +kernel), List.mem_of_getElem? (i := 797) (by decide +kernel)⟩
theorem lw_p20 : lw_okq (⟨"ReportBlocksModel", "readBits", "(I)V"⟩, 46) := ⟨⟨by decide +kernel, by decide +kernel⟩, List.mem_of_getElem? (i := 580) (by decide +kernel), List.mem_of_getElem? (i := 800) (by decide +kernel), List.mem_of_getElem? (i := 801) (by decide +kernel)⟩
theorem lw_p21 : lw_okq (⟨"ReportBlocksModel", "takes", "()I"⟩, 46) := ⟨⟨by decide +kernel, by decide +kernel⟩, List.mem_of_getElem? (i := 580) (by decide +kernel), List.mem_of_getElem? (i := 804) (by decide +kernel), List.mem_of_getElem? (i := 805) (by decide +kernel)⟩
theorem lw_p22 : lw_okq (⟨"ReportBlocksModel", "needs", "(I)V"⟩, 46) := ⟨⟨by decide +kernel, by decide +kernel⟩, List.mem_of_getElem? (i := 580) (by decide +kernel), List.mem_of_getElem? (i := 808) (by decide +kernel), List.mem_of_getElem? (i := 809) (by decide +kernel)⟩
theorem lw_p23 : lw_okq (⟨"ReportBlocksModel", "isEmptyByte", "(I)Z"⟩, 46) := ⟨⟨by decide +kernel, by decide +kernel⟩, List.mem_of_getElem? (i := 580) (by decide +kernel), List.mem_of_getElem? (i := 812) (by decide +kernel), List.mem_of_getElem? (i := 813) (by decide +kernel)⟩
theorem lw_p24 : lw_okq (⟨"ReportBlocksModel", "readItem", "(II)V"⟩, 46) := ⟨⟨by decide +kernel, by decide +kernel⟩, List.mem_of_getElem? (i := 580) (by decide +kernel), List.mem_of_getElem? (i := 816) (by decide +kernel), List.mem_of_getElem? (i := 817) (by decide +kernel)⟩
theorem lw_p25 : lw_okq (⟨"ReportBlocksModel", "readGoing", "()V"⟩, 46) := ⟨⟨by decide +kernel, by decide +kernel⟩, List.mem_of_getElem? (i := 580) (by decide +kernel), List.mem_of_getElem? (i := 820) (by decide +kernel), List.mem_of_getElem? (i := 821) (by decide +kernel)⟩
theorem lw_p26 : lw_okq (⟨"ReportBlocksModel", "readMade", "(II)V"⟩, 46) := ⟨⟨by decide +kernel, by decide +kernel⟩, List.mem_of_getElem? (i := 580) (by decide +kernel), List.mem_of_getElem? (i := 824) (by decide +kernel), List.mem_of_getElem? (i := 825) (by decide +kernel)⟩
theorem lw_p27 : lw_okq (⟨"ReportBlocksModel", "isRecord", "(I)Z"⟩, 46) := ⟨⟨by decide +kernel, by decide +kernel⟩, List.mem_of_getElem? (i := 580) (by decide +kernel), List.mem_of_getElem? (i := 840) (by decide +kernel), List.mem_of_getElem? (i := 841) (by decide +kernel)⟩
theorem lw_p28 : lw_okq (⟨"ReportBlocksModel", "together", "(II)J"⟩, 46) := ⟨⟨by decide +kernel, by decide +kernel⟩, List.mem_of_getElem? (i := 580) (by decide +kernel), List.mem_of_getElem? (i := 854) (by decide +kernel), List.mem_of_getElem? (i := 855) (by decide +kernel)⟩
theorem lw_p29 : lw_okq (⟨"ReportBlocksModel", "ofMade", "(IIII)J"⟩, 46) := ⟨⟨by decide +kernel, by decide +kernel⟩, List.mem_of_getElem? (i := 580) (by decide +kernel), List.mem_of_getElem? (i := 858) (by decide +kernel), List.mem_of_getElem? (i := 859) (by decide +kernel)⟩
theorem lw_p30 : lw_okq (⟨"ReportBlocksModel", "put", "(I)V"⟩, 46) := ⟨⟨by decide +kernel, by decide +kernel⟩, List.mem_of_getElem? (i := 580) (by decide +kernel), List.mem_of_getElem? (i := 878) (by decide +kernel), List.mem_of_getElem? (i := 879) (by decide +kernel)⟩
theorem lw_p31 : lw_okq (⟨"ReportBlocksModel", "trackOf", "(I)I"⟩, 46) := ⟨⟨by decide +kernel, by decide +kernel⟩, List.mem_of_getElem? (i := 580) (by decide +kernel), List.mem_of_getElem? (i := 895) (by decide +kernel), List.mem_of_getElem? (i := 896) (by decide +kernel)⟩
def lw_privs_2 : List (MethodName × Nat) := [(⟨"ReportBlocksModel", "isFixed", "(III)Z"⟩, 46), (⟨"ReportBlocksModel", "readBlock", "()I"⟩, 46), (⟨"ReportBlocksModel", "fails", "(II)V"⟩, 46), (⟨"ReportBlocksModel", "readRecord", "(I)V"⟩, 46), (⟨"ReportBlocksModel", "readBits", "(I)V"⟩, 46), (⟨"ReportBlocksModel", "takes", "()I"⟩, 46), (⟨"ReportBlocksModel", "needs", "(I)V"⟩, 46), (⟨"ReportBlocksModel", "isEmptyByte", "(I)Z"⟩, 46), (⟨"ReportBlocksModel", "readItem", "(II)V"⟩, 46), (⟨"ReportBlocksModel", "readGoing", "()V"⟩, 46), (⟨"ReportBlocksModel", "readMade", "(II)V"⟩, 46), (⟨"ReportBlocksModel", "isRecord", "(I)Z"⟩, 46), (⟨"ReportBlocksModel", "together", "(II)J"⟩, 46), (⟨"ReportBlocksModel", "ofMade", "(IIII)J"⟩, 46), (⟨"ReportBlocksModel", "put", "(I)V"⟩, 46), (⟨"ReportBlocksModel", "trackOf", "(I)I"⟩, 46)]
theorem lw_r2 : ∀ q ∈ lw_privs_2, lw_okq q := List.forall_mem_cons.mpr ⟨lw_p16, List.forall_mem_cons.mpr ⟨lw_p17, List.forall_mem_cons.mpr ⟨lw_p18, List.forall_mem_cons.mpr ⟨lw_p19, List.forall_mem_cons.mpr ⟨lw_p20, List.forall_mem_cons.mpr ⟨lw_p21, List.forall_mem_cons.mpr ⟨lw_p22, List.forall_mem_cons.mpr ⟨lw_p23, List.forall_mem_cons.mpr ⟨lw_p24, List.forall_mem_cons.mpr ⟨lw_p25, List.forall_mem_cons.mpr ⟨lw_p26, List.forall_mem_cons.mpr ⟨lw_p27, List.forall_mem_cons.mpr ⟨lw_p28, List.forall_mem_cons.mpr ⟨lw_p29, List.forall_mem_cons.mpr ⟨lw_p30, List.forall_mem_cons.mpr ⟨lw_p31, fun _ h => absurd h List.not_mem_nil⟩⟩⟩⟩⟩⟩⟩⟩⟩⟩⟩⟩⟩⟩⟩⟩
theorem lw_p32 : lw_okq (⟨"ReportBlocksModel", "moves", "(II)V"⟩, 46) := ⟨⟨by decide +kernel, by decide +kernel⟩, List.mem_of_getElem? (i := 580) (by decide +kernel), List.mem_of_getElem? (i := 903) (by decide +kernel), List.mem_of_getElem? (i := 904) (by decide +kernel)⟩
def lw_privs_3 : List (MethodName × Nat) := [(⟨"ReportBlocksModel", "moves", "(II)V"⟩, 46)]
theorem lw_r3 : ∀ q ∈ lw_privs_3, lw_okq q := List.forall_mem_cons.mpr ⟨lw_p32, fun _ h => absurd h List.not_mem_nil⟩
def lw_privs : List (MethodName × Nat) := lw_privs_1 ++ (lw_privs_2 ++ (lw_privs_3))
def lw_tbl : List Cond := k2_sels lw_privs ++ tables_1
theorem lw_privs_ok : ∀ q ∈ lw_privs, lw_okq q := by
  show ∀ q ∈ lw_privs_1 ++ (lw_privs_2 ++ (lw_privs_3)), lw_okq q
  exact List.forall_mem_append.mpr ⟨lw_r1, List.forall_mem_append.mpr ⟨lw_r2, lw_r3⟩⟩
theorem goodIn_r {big : List Cond} (ws : List Cond) (ps : List Nat) (hp : ws = ps.filterMap (fun i => big[i]?)) (h : ws.all goodWord = true) : GoodIn big ws := by
  intro w hw
  have h1 := List.all_eq_true.mp h w hw
  rw [hp] at hw
  obtain ⟨i, -, hi⟩ := List.mem_filterMap.mp hw
  have hm : w ∈ big := by first | exact List.mem_of_getElem? hi | exact List.getElem?_mem hi
  exact ⟨hm, good_of_word h1⟩
theorem goodIn_app {big a b : List Cond} (ha : GoodIn big a) (hb : GoodIn big b) : GoodIn big (a ++ b) := fun w h => (List.mem_append.mp h).elim (ha w) (hb w)
theorem goodIn_ca {big a b : List Cond} {c : Cond} (ha : GoodIn big (c :: a)) (hb : GoodIn big b) : GoodIn big (c :: (a ++ b)) := fun w h => (List.mem_cons.mp h).elim (fun e => ha w (List.mem_cons.mpr (Or.inl e))) (fun h => (List.mem_append.mp h).elim (fun h => ha w (List.mem_cons.mpr (Or.inr h))) (hb w))
theorem goodIn_sub {big ws : List Cond} (hm : ∀ w ∈ ws, w ∈ big) (h : ws.all goodWord = true) : GoodIn big ws := fun w hw => ⟨hm w hw, good_of_word (List.all_eq_true.mp h w hw)⟩

def RX0 : String := "ReportBlocks$Block"
def TX0 : u_T := fun k => match k with
  | 0 => ("ReportBlocks$Block", "category", "I", false)
  | 1 => ("ReportBlocks$Block", "count", "I", false)
  | 2 => ("ReportBlocks$Block", "bytes", "[I", true)
  | 3 => ("ReportBlocks$Block", "size", "I", false)
  | 4 => ("ReportBlocks$Block", "starts", "[I", true)
  | 5 => ("ReportBlocks$Block", "begins", "[I", true)
  | _ => ("ReportBlocks$Block", "sizes", "[I", true)
def tyX0 : Nat → FieldType := fun k => match k with
  | 0 => .int
  | 1 => .int
  | 2 => .array .int
  | 3 => .int
  | 4 => .array .int
  | 5 => .array .int
  | _ => .array .int
abbrev wsX00 : List Cond := u_ws RX0 TX0 7
theorem nmX0 : ∀ a, a < 7 → ∀ b, b < 7 → a ≠ b → (TX0 a).2.1 ≠ (TX0 b).2.1 := by decide +kernel
theorem tyX0_ok : ∀ k, k < 7 → parseFieldDescriptor (TX0 k).2.2.1 = some (tyX0 k) := by decide +kernel
abbrev cX0_init : ByteArray := prog_2_method_1_code
def yX0_init : MethodName := ⟨RX0, "<init>", "()V"⟩
abbrev cX0_clear : ByteArray := prog_2_method_2_code
def yX0_clear : MethodName := ⟨RX0, "clear", "()V"⟩
abbrev cX0_keepBytes : ByteArray := prog_2_method_3_code
def yX0_keepBytes : MethodName := ⟨RX0, "keepBytes", "([II)V"⟩
abbrev cX0_startRecord : ByteArray := prog_2_method_4_code
def yX0_startRecord : MethodName := ⟨RX0, "startRecord", "(I)I"⟩
abbrev cX0_putItem : ByteArray := prog_2_method_5_code
def yX0_putItem : MethodName := ⟨RX0, "putItem", "(IIII)V"⟩
abbrev cX0_sizeOf : ByteArray := prog_2_method_6_code
def yX0_sizeOf : MethodName := ⟨RX0, "sizeOf", "(II)I"⟩
abbrev cX0_beginOf : ByteArray := prog_2_method_7_code
def yX0_beginOf : MethodName := ⟨RX0, "beginOf", "(II)I"⟩
abbrev cX0_bytesOf : ByteArray := prog_2_method_8_code
def yX0_bytesOf : MethodName := ⟨RX0, "bytesOf", "(I)I"⟩
abbrev cX0_bytesWithout : ByteArray := prog_2_method_9_code
def yX0_bytesWithout : MethodName := ⟨RX0, "bytesWithout", "(I)I"⟩
abbrev cX0_joined : ByteArray := prog_2_method_10_code
def yX0_joined : MethodName := ⟨RX0, "joined", "(II)J"⟩
abbrev cX0_slot : ByteArray := prog_2_method_11_code
def yX0_slot : MethodName := ⟨RX0, "slot", "(II)I"⟩
def RX1 : String := "ReportBlocks$Category"
def TX1 : u_T := fun k => match k with
  | 0 => ("ReportBlocks$Category", "number", "I", true)
  | 1 => ("ReportBlocks$Category", "kinds", "[I", true)
  | 2 => ("ReportBlocks$Category", "sizes", "[I", true)
  | 3 => ("ReportBlocks$Category", "parts", "[I", true)
  | 4 => ("ReportBlocks$Category", "numberPlace", "I", false)
  | _ => ("ReportBlocks$Category", "positionPlace", "I", false)
def tyX1 : Nat → FieldType := fun k => match k with
  | 0 => .int
  | 1 => .array .int
  | 2 => .array .int
  | 3 => .array .int
  | 4 => .int
  | _ => .int
abbrev wsX10 : List Cond := u_ws RX1 TX1 6
theorem nmX1 : ∀ a, a < 6 → ∀ b, b < 6 → a ≠ b → (TX1 a).2.1 ≠ (TX1 b).2.1 := by decide +kernel
theorem tyX1_ok : ∀ k, k < 6 → parseFieldDescriptor (TX1 k).2.2.1 = some (tyX1 k) := by decide +kernel
abbrev cX1_init : ByteArray := prog_3_method_1_code
def yX1_init : MethodName := ⟨RX1, "<init>", "(I)V"⟩
abbrev cX1_putItem : ByteArray := prog_3_method_2_code
def yX1_putItem : MethodName := ⟨RX1, "putItem", "(III)V"⟩
abbrev cX1_isFixed : ByteArray := prog_3_method_3_code
def yX1_isFixed : MethodName := ⟨RX1, "isFixed", "(II)Z"⟩
abbrev cX1_tellsTrack : ByteArray := prog_3_method_4_code
def yX1_tellsTrack : MethodName := ⟨RX1, "tellsTrack", "()Z"⟩
abbrev cX1_partBytes : ByteArray := prog_3_method_5_code
def yX1_partBytes : MethodName := ⟨RX1, "partBytes", "(II)I"⟩
abbrev cX1_putPart : ByteArray := prog_3_method_6_code
def yX1_putPart : MethodName := ⟨RX1, "putPart", "(III)V"⟩
def RX2 : String := "ReportBlocks$OwnRecord"
def TX2 : u_T := fun k => match k with
  | 0 => ("ReportBlocks$OwnRecord", "category", "I", false)
  | 1 => ("ReportBlocks$OwnRecord", "bytes", "[I", true)
  | _ => ("ReportBlocks$OwnRecord", "sizes", "[I", true)
def tyX2 : Nat → FieldType := fun k => match k with
  | 0 => .int
  | 1 => .array .int
  | _ => .array .int
abbrev wsX20 : List Cond := u_ws RX2 TX2 3
theorem nmX2 : ∀ a, a < 3 → ∀ b, b < 3 → a ≠ b → (TX2 a).2.1 ≠ (TX2 b).2.1 := by decide +kernel
theorem tyX2_ok : ∀ k, k < 3 → parseFieldDescriptor (TX2 k).2.2.1 = some (tyX2 k) := by decide +kernel
abbrev cX2_init : ByteArray := prog_4_method_1_code
def yX2_init : MethodName := ⟨RX2, "<init>", "()V"⟩
abbrev cX2_rowOf : ByteArray := prog_4_method_2_code
def yX2_rowOf : MethodName := ⟨RX2, "rowOf", "(I)I"⟩
abbrev cX2_startFor : ByteArray := prog_4_method_3_code
def yX2_startFor : MethodName := ⟨RX2, "startFor", "(I)V"⟩
abbrev cX2_putItem : ByteArray := prog_4_method_4_code
def yX2_putItem : MethodName := ⟨RX2, "putItem", "(I[II)V"⟩
abbrev cX2_lastPlace : ByteArray := prog_4_method_5_code
def yX2_lastPlace : MethodName := ⟨RX2, "lastPlace", "()I"⟩
abbrev cX2_itemBytes : ByteArray := prog_4_method_6_code
def yX2_itemBytes : MethodName := ⟨RX2, "itemBytes", "()I"⟩
abbrev cX2_bitsByte : ByteArray := prog_4_method_7_code
def yX2_bitsByte : MethodName := ⟨RX2, "bitsByte", "(IZ)I"⟩
def RX3 : String := "ReportBlocks$Reader"
def TX3 : u_T := fun k => match k with
  | 0 => ("ReportBlocks$Reader", "bytes", "[I", true)
  | 1 => ("ReportBlocks$Reader", "table", "LReportBlocks$Category;", false)
  | 2 => ("ReportBlocks$Reader", "next", "I", false)
  | 3 => ("ReportBlocks$Reader", "end", "I", false)
  | 4 => ("ReportBlocks$Reader", "fault", "I", false)
  | _ => ("ReportBlocks$Reader", "faultPlace", "I", false)
def tyX3 : Nat → FieldType := fun k => match k with
  | 0 => .array .int
  | 1 => .object "ReportBlocks$Category"
  | 2 => .int
  | 3 => .int
  | 4 => .int
  | _ => .int
abbrev wsX30 : List Cond := u_ws RX3 TX3 6
theorem nmX3 : ∀ a, a < 6 → ∀ b, b < 6 → a ≠ b → (TX3 a).2.1 ≠ (TX3 b).2.1 := by decide +kernel
theorem tyX3_ok : ∀ k, k < 6 → parseFieldDescriptor (TX3 k).2.2.1 = some (tyX3 k) := by decide +kernel
abbrev cX3_init : ByteArray := prog_5_method_1_code
def yX3_init : MethodName := ⟨RX3, "<init>", "(LReportBlocks$Tape;)V"⟩
abbrev cX3_start : ByteArray := prog_5_method_2_code
def yX3_start : MethodName := ⟨RX3, "start", "(I)V"⟩
abbrev cX3_hasMore : ByteArray := prog_5_method_3_code
def yX3_hasMore : MethodName := ⟨RX3, "hasMore", "()Z"⟩
abbrev cX3_fail : ByteArray := prog_5_method_4_code
def yX3_fail : MethodName := ⟨RX3, "fail", "(II)V"⟩
abbrev cX3_passRecord : ByteArray := prog_5_method_5_code
def yX3_passRecord : MethodName := ⟨RX3, "passRecord", "(LReportBlocks$Block;)V"⟩
abbrev cX3_refuseRecord : ByteArray := prog_5_method_6_code
def yX3_refuseRecord : MethodName := ⟨RX3, "refuseRecord", "()V"⟩
abbrev cX3_passItem : ByteArray := prog_5_method_7_code
def yX3_passItem : MethodName := ⟨RX3, "passItem", "(I)V"⟩
abbrev cX3_pass : ByteArray := prog_5_method_8_code
def yX3_pass : MethodName := ⟨RX3, "pass", "(I)V"⟩
abbrev cX3_passGoing : ByteArray := prog_5_method_9_code
def yX3_passGoing : MethodName := ⟨RX3, "passGoing", "()V"⟩
abbrev cX3_passAgain : ByteArray := prog_5_method_10_code
def yX3_passAgain : MethodName := ⟨RX3, "passAgain", "(I)V"⟩
abbrev cX3_passMade : ByteArray := prog_5_method_11_code
def yX3_passMade : MethodName := ⟨RX3, "passMade", "(I)V"⟩
abbrev cX3_passBits : ByteArray := prog_5_method_12_code
def yX3_passBits : MethodName := ⟨RX3, "passBits", "(I)I"⟩
abbrev cX3_lookForPlaces : ByteArray := prog_5_method_13_code
def yX3_lookForPlaces : MethodName := ⟨RX3, "lookForPlaces", "(II)V"⟩
def RX4 : String := "ReportBlocks$Tape"
def TX4 : u_T := fun k => match k with
  | 0 => ("ReportBlocks$Tape", "bytes", "[I", true)
  | _ => ("ReportBlocks$Tape", "size", "I", false)
def tyX4 : Nat → FieldType := fun k => match k with
  | 0 => .array .int
  | _ => .int
abbrev wsX40 : List Cond := u_ws RX4 TX4 2
theorem nmX4 : ∀ a, a < 2 → ∀ b, b < 2 → a ≠ b → (TX4 a).2.1 ≠ (TX4 b).2.1 := by decide +kernel
theorem tyX4_ok : ∀ k, k < 2 → parseFieldDescriptor (TX4 k).2.2.1 = some (tyX4 k) := by decide +kernel
abbrev cX4_init : ByteArray := prog_6_method_1_code
def yX4_init : MethodName := ⟨RX4, "<init>", "()V"⟩
abbrev cX4_hasRoom : ByteArray := prog_6_method_2_code
def yX4_hasRoom : MethodName := ⟨RX4, "hasRoom", "(I)Z"⟩
abbrev cX4_put : ByteArray := prog_6_method_3_code
def yX4_put : MethodName := ⟨RX4, "put", "(I)V"⟩
abbrev cX4_putHead : ByteArray := prog_6_method_4_code
def yX4_putHead : MethodName := ⟨RX4, "putHead", "(II)V"⟩
abbrev cX4_putAll : ByteArray := prog_6_method_5_code
def yX4_putAll : MethodName := ⟨RX4, "putAll", "([III)V"⟩
abbrev cX4_dropFirst : ByteArray := prog_6_method_6_code
def yX4_dropFirst : MethodName := ⟨RX4, "dropFirst", "(I)V"⟩
def RX5 : String := "ReportBlocks$Track"
def TX5 : u_T := fun k => match k with
  | 0 => ("ReportBlocks$Track", "number", "I", false)
  | 1 => ("ReportBlocks$Track", "x", "I", false)
  | 2 => ("ReportBlocks$Track", "y", "I", false)
  | 3 => ("ReportBlocks$Track", "reportedX", "I", false)
  | 4 => ("ReportBlocks$Track", "reportedY", "I", false)
  | 5 => ("ReportBlocks$Track", "speedX", "I", false)
  | 6 => ("ReportBlocks$Track", "speedY", "I", false)
  | 7 => ("ReportBlocks$Track", "age", "I", false)
  | _ => ("ReportBlocks$Track", "hits", "I", false)
def tyX5 : Nat → FieldType := fun k => match k with
  | 0 => .int
  | 1 => .int
  | 2 => .int
  | 3 => .int
  | 4 => .int
  | 5 => .int
  | 6 => .int
  | 7 => .int
  | _ => .int
abbrev wsX50 : List Cond := u_ws RX5 TX5 9
theorem nmX5 : ∀ a, a < 9 → ∀ b, b < 9 → a ≠ b → (TX5 a).2.1 ≠ (TX5 b).2.1 := by decide +kernel
theorem tyX5_ok : ∀ k, k < 9 → parseFieldDescriptor (TX5 k).2.2.1 = some (tyX5 k) := by decide +kernel
abbrev cX5_init : ByteArray := prog_7_method_1_code
def yX5_init : MethodName := ⟨RX5, "<init>", "()V"⟩
abbrev cX5_come : ByteArray := prog_7_method_2_code
def yX5_come : MethodName := ⟨RX5, "come", "(III)V"⟩
abbrev cX5_update : ByteArray := prog_7_method_3_code
def yX5_update : MethodName := ⟨RX5, "update", "(II)V"⟩
abbrev cX5_passTick : ByteArray := prog_7_method_4_code
def yX5_passTick : MethodName := ⟨RX5, "passTick", "()V"⟩
def RX6 : String := "ReportBlocks$TrackRow"
def TX6 : u_T := fun k => match k with
  | 0 => ("ReportBlocks$TrackRow", "tracks", "[LReportBlocks$Track;", true)
  | 1 => ("ReportBlocks$TrackRow", "size", "I", false)
  | 2 => ("ReportBlocks$TrackRow", "lost", "I", false)
  | 3 => ("ReportBlocks$TrackRow", "dropped", "I", false)
  | _ => ("ReportBlocks$TrackRow", "ticks", "I", false)
def tyX6 : Nat → FieldType := fun k => match k with
  | 0 => .array (.object "ReportBlocks$Track")
  | 1 => .int
  | 2 => .int
  | 3 => .int
  | _ => .int
abbrev wsX60 : List Cond := u_ws RX6 TX6 5
theorem nmX6 : ∀ a, a < 5 → ∀ b, b < 5 → a ≠ b → (TX6 a).2.1 ≠ (TX6 b).2.1 := by decide +kernel
theorem tyX6_ok : ∀ k, k < 5 → parseFieldDescriptor (TX6 k).2.2.1 = some (tyX6 k) := by decide +kernel
abbrev cX6_init : ByteArray := prog_8_method_1_code
def yX6_init : MethodName := ⟨RX6, "<init>", "()V"⟩
abbrev cX6_update : ByteArray := prog_8_method_2_code
def yX6_update : MethodName := ⟨RX6, "update", "(III)I"⟩
abbrev cX6_passTick : ByteArray := prog_8_method_3_code
def yX6_passTick : MethodName := ⟨RX6, "passTick", "()V"⟩
def RX7 : String := "ReportBlocks"
def TX7 : u_T := fun k => match k with
  | 0 => ("ReportBlocks", "categories", "[LReportBlocks$Category;", true)
  | 1 => ("ReportBlocks", "categoryCount", "I", false)
  | 2 => ("ReportBlocks", "belt", "LReportBlocks$Tape;", true)
  | 3 => ("ReportBlocks", "reader", "LReportBlocks$Reader;", true)
  | 4 => ("ReportBlocks", "latest", "LReportBlocks$Block;", false)
  | 5 => ("ReportBlocks", "spare", "LReportBlocks$Block;", false)
  | 6 => ("ReportBlocks", "own", "LReportBlocks$OwnRecord;", true)
  | 7 => ("ReportBlocks", "row", "LReportBlocks$TrackRow;", true)
  | 8 => ("ReportBlocks", "latestFault", "I", false)
  | _ => ("ReportBlocks", "blocksRead", "I", false)
def tyX7 : Nat → FieldType := fun k => match k with
  | 0 => .array (.object "ReportBlocks$Category")
  | 1 => .int
  | 2 => .object "ReportBlocks$Tape"
  | 3 => .object "ReportBlocks$Reader"
  | 4 => .object "ReportBlocks$Block"
  | 5 => .object "ReportBlocks$Block"
  | 6 => .object "ReportBlocks$OwnRecord"
  | 7 => .object "ReportBlocks$TrackRow"
  | 8 => .int
  | _ => .int
abbrev wsX70 : List Cond := u_ws RX7 TX7 10
theorem nmX7 : ∀ a, a < 10 → ∀ b, b < 10 → a ≠ b → (TX7 a).2.1 ≠ (TX7 b).2.1 := by decide +kernel
theorem tyX7_ok : ∀ k, k < 10 → parseFieldDescriptor (TX7 k).2.2.1 = some (tyX7 k) := by decide +kernel
abbrev cX7_init : ByteArray := prog_1_method_1_code
def yX7_init : MethodName := ⟨RX7, "<init>", "()V"⟩
abbrev cX7_category : ByteArray := prog_1_method_2_code
def yX7_category : MethodName := ⟨RX7, "category", "(I)I"⟩
abbrev cX7_item : ByteArray := prog_1_method_3_code
def yX7_item : MethodName := ⟨RX7, "item", "(IIII)I"⟩
abbrev cX7_part : ByteArray := prog_1_method_4_code
def yX7_part : MethodName := ⟨RX7, "part", "(IIII)I"⟩
abbrev cX7_tells : ByteArray := prog_1_method_5_code
def yX7_tells : MethodName := ⟨RX7, "tells", "(III)I"⟩
abbrev cX7_table : ByteArray := prog_1_method_6_code
def yX7_table : MethodName := ⟨RX7, "table", "(III)I"⟩
abbrev cX7_feed : ByteArray := prog_1_method_7_code
def yX7_feed : MethodName := ⟨RX7, "feed", "(JI)I"⟩
abbrev cX7_tear : ByteArray := prog_1_method_8_code
def yX7_tear : MethodName := ⟨RX7, "tear", "()I"⟩
abbrev cX7_read : ByteArray := prog_1_method_9_code
def yX7_read : MethodName := ⟨RX7, "read", "()I"⟩
abbrev cX7_fault : ByteArray := prog_1_method_10_code
def yX7_fault : MethodName := ⟨RX7, "fault", "()I"⟩
abbrev cX7_records : ByteArray := prog_1_method_11_code
def yX7_records : MethodName := ⟨RX7, "records", "(I)I"⟩
abbrev cX7_has : ByteArray := prog_1_method_12_code
def yX7_has : MethodName := ⟨RX7, "has", "(III)I"⟩
abbrev cX7_at : ByteArray := prog_1_method_13_code
def yX7_at : MethodName := ⟨RX7, "at", "(III)I"⟩
abbrev cX7_number : ByteArray := prog_1_method_14_code
def yX7_number : MethodName := ⟨RX7, "number", "(III)J"⟩
abbrev cX7_begin : ByteArray := prog_1_method_15_code
def yX7_begin : MethodName := ⟨RX7, "begin", "(I)I"⟩
abbrev cX7_set : ByteArray := prog_1_method_16_code
def yX7_set : MethodName := ⟨RX7, "set", "(I)I"⟩
abbrev cX7_take : ByteArray := prog_1_method_17_code
def yX7_take : MethodName := ⟨RX7, "take", "(I)I"⟩
abbrev cX7_write : ByteArray := prog_1_method_18_code
def yX7_write : MethodName := ⟨RX7, "write", "()I"⟩
abbrev cX7_copy : ByteArray := prog_1_method_19_code
def yX7_copy : MethodName := ⟨RX7, "copy", "(I)I"⟩
abbrev cX7_tape : ByteArray := prog_1_method_20_code
def yX7_tape : MethodName := ⟨RX7, "tape", "(I)I"⟩
abbrev cX7_report : ByteArray := prog_1_method_21_code
def yX7_report : MethodName := ⟨RX7, "report", "(I)I"⟩
abbrev cX7_tick : ByteArray := prog_1_method_22_code
def yX7_tick : MethodName := ⟨RX7, "tick", "(I)I"⟩
abbrev cX7_track : ByteArray := prog_1_method_23_code
def yX7_track : MethodName := ⟨RX7, "track", "(II)I"⟩
abbrev cX7_count : ByteArray := prog_1_method_24_code
def yX7_count : MethodName := ⟨RX7, "count", "(I)I"⟩
abbrev cX7_categoryAt : ByteArray := prog_1_method_25_code
def yX7_categoryAt : MethodName := ⟨RX7, "categoryAt", "(I)LReportBlocks$Category;"⟩
abbrev cX7_indexOfNumber : ByteArray := prog_1_method_26_code
def yX7_indexOfNumber : MethodName := ⟨RX7, "indexOfNumber", "(I)I"⟩
abbrev cX7_isInUse : ByteArray := prog_1_method_27_code
def yX7_isInUse : MethodName := ⟨RX7, "isInUse", "(I)Z"⟩
abbrev cX7_isRecord : ByteArray := prog_1_method_28_code
def yX7_isRecord : MethodName := ⟨RX7, "isRecord", "(I)Z"⟩
abbrev cX7_isPlace : ByteArray := prog_1_method_29_code
def yX7_isPlace : MethodName := ⟨RX7, "isPlace", "(I)Z"⟩
abbrev cX7_isItem : ByteArray := prog_1_method_30_code
def yX7_isItem : MethodName := ⟨RX7, "isItem", "(II)Z"⟩
abbrev cX7_isOne : ByteArray := prog_1_method_31_code
def yX7_isOne : MethodName := ⟨RX7, "isOne", "([III)Z"⟩
abbrev cX7_passBlock : ByteArray := prog_1_method_32_code
def yX7_passBlock : MethodName := ⟨RX7, "passBlock", "()V"⟩
abbrev cX7_partNumber : ByteArray := prog_1_method_33_code
def yX7_partNumber : MethodName := ⟨RX7, "partNumber", "(LReportBlocks$Category;III)J"⟩
def RX8 : String := "ReportBlocksModel"
def TX8 : u_T := fun k => match k with
  | 0 => ("ReportBlocksModel", "categories", "I", false)
  | 1 => ("ReportBlocksModel", "numberOf", "[I", true)
  | 2 => ("ReportBlocksModel", "kind", "[I", true)
  | 3 => ("ReportBlocksModel", "bytes", "[I", true)
  | 4 => ("ReportBlocksModel", "parts", "[I", true)
  | 5 => ("ReportBlocksModel", "trackBy", "[I", true)
  | 6 => ("ReportBlocksModel", "whereBy", "[I", true)
  | 7 => ("ReportBlocksModel", "tape", "[I", true)
  | 8 => ("ReportBlocksModel", "size", "I", false)
  | 9 => ("ReportBlocksModel", "at", "I", false)
  | 10 => ("ReportBlocksModel", "end", "I", false)
  | 11 => ("ReportBlocksModel", "fault", "I", false)
  | 12 => ("ReportBlocksModel", "faultAt", "I", false)
  | 13 => ("ReportBlocksModel", "toldFault", "I", false)
  | 14 => ("ReportBlocksModel", "records", "I", false)
  | 15 => ("ReportBlocksModel", "recordsOf", "I", false)
  | 16 => ("ReportBlocksModel", "block", "[I", true)
  | 17 => ("ReportBlocksModel", "begins", "[I", true)
  | 18 => ("ReportBlocksModel", "itemAt", "[I", true)
  | 19 => ("ReportBlocksModel", "itemSize", "[I", true)
  | 20 => ("ReportBlocksModel", "draftRecords", "I", false)
  | 21 => ("ReportBlocksModel", "draftBegins", "[I", true)
  | 22 => ("ReportBlocksModel", "draftAt", "[I", true)
  | 23 => ("ReportBlocksModel", "draftSize", "[I", true)
  | 24 => ("ReportBlocksModel", "hasBit", "[Z", true)
  | 25 => ("ReportBlocksModel", "own", "I", false)
  | 26 => ("ReportBlocksModel", "ownSize", "[I", true)
  | 27 => ("ReportBlocksModel", "ownByte", "[I", true)
  | 28 => ("ReportBlocksModel", "tracks", "I", false)
  | 29 => ("ReportBlocksModel", "track", "[I", true)
  | 30 => ("ReportBlocksModel", "x", "[I", true)
  | 31 => ("ReportBlocksModel", "y", "[I", true)
  | 32 => ("ReportBlocksModel", "speedX", "[I", true)
  | 33 => ("ReportBlocksModel", "speedY", "[I", true)
  | 34 => ("ReportBlocksModel", "age", "[I", true)
  | 35 => ("ReportBlocksModel", "hits", "[I", true)
  | 36 => ("ReportBlocksModel", "lastX", "[I", true)
  | 37 => ("ReportBlocksModel", "lastY", "[I", true)
  | 38 => ("ReportBlocksModel", "lastTick", "[I", true)
  | 39 => ("ReportBlocksModel", "lost", "I", false)
  | 40 => ("ReportBlocksModel", "dropped", "I", false)
  | 41 => ("ReportBlocksModel", "ticks", "I", false)
  | 42 => ("ReportBlocksModel", "blocks", "I", false)
  | 43 => ("ReportBlocksModel", "bitsAt", "I", false)
  | 44 => ("ReportBlocksModel", "bitBytes", "I", false)
  | _ => ("ReportBlocksModel", "hasPlace", "[Z", true)
def tyX8 : Nat → FieldType := fun k => match k with
  | 0 => .int
  | 1 => .array .int
  | 2 => .array .int
  | 3 => .array .int
  | 4 => .array .int
  | 5 => .array .int
  | 6 => .array .int
  | 7 => .array .int
  | 8 => .int
  | 9 => .int
  | 10 => .int
  | 11 => .int
  | 12 => .int
  | 13 => .int
  | 14 => .int
  | 15 => .int
  | 16 => .array .int
  | 17 => .array .int
  | 18 => .array .int
  | 19 => .array .int
  | 20 => .int
  | 21 => .array .int
  | 22 => .array .int
  | 23 => .array .int
  | 24 => .array .boolean
  | 25 => .int
  | 26 => .array .int
  | 27 => .array .int
  | 28 => .int
  | 29 => .array .int
  | 30 => .array .int
  | 31 => .array .int
  | 32 => .array .int
  | 33 => .array .int
  | 34 => .array .int
  | 35 => .array .int
  | 36 => .array .int
  | 37 => .array .int
  | 38 => .array .int
  | 39 => .int
  | 40 => .int
  | 41 => .int
  | 42 => .int
  | 43 => .int
  | 44 => .int
  | _ => .array .boolean
abbrev wsX80 : List Cond := u_ws RX8 TX8 46
theorem nmX8 : ∀ a, a < 46 → ∀ b, b < 46 → a ≠ b → (TX8 a).2.1 ≠ (TX8 b).2.1 := by decide +kernel
theorem tyX8_ok : ∀ k, k < 46 → parseFieldDescriptor (TX8 k).2.2.1 = some (tyX8 k) := by decide +kernel
abbrev cX8_init : ByteArray := prog_10_method_1_code
def yX8_init : MethodName := ⟨RX8, "<init>", "()V"⟩
abbrev cX8_in : ByteArray := prog_10_method_3_code
def yX8_in : MethodName := ⟨RX8, "in", "(III)Z"⟩
abbrev cX8_isCategory : ByteArray := prog_10_method_4_code
def yX8_isCategory : MethodName := ⟨RX8, "isCategory", "(I)Z"⟩
abbrev cX8_isPlace : ByteArray := prog_10_method_5_code
def yX8_isPlace : MethodName := ⟨RX8, "isPlace", "(I)Z"⟩
abbrev cX8_category : ByteArray := prog_10_method_6_code
def yX8_category : MethodName := ⟨RX8, "category", "(I)I"⟩
abbrev cX8_find : ByteArray := prog_10_method_7_code
def yX8_find : MethodName := ⟨RX8, "find", "(I)I"⟩
abbrev cX8_becomes : ByteArray := prog_10_method_8_code
def yX8_becomes : MethodName := ⟨RX8, "becomes", "(IIII)V"⟩
abbrev cX8_isInUse : ByteArray := prog_10_method_9_code
def yX8_isInUse : MethodName := ⟨RX8, "isInUse", "(I)Z"⟩
abbrev cX8_item : ByteArray := prog_10_method_10_code
def yX8_item : MethodName := ⟨RX8, "item", "(IIII)I"⟩
abbrev cX8_part : ByteArray := prog_10_method_11_code
def yX8_part : MethodName := ⟨RX8, "part", "(IIII)I"⟩
abbrev cX8_isFixed : ByteArray := prog_10_method_12_code
def yX8_isFixed : MethodName := ⟨RX8, "isFixed", "(III)Z"⟩
abbrev cX8_tells : ByteArray := prog_10_method_13_code
def yX8_tells : MethodName := ⟨RX8, "tells", "(III)I"⟩
abbrev cX8_table : ByteArray := prog_10_method_14_code
def yX8_table : MethodName := ⟨RX8, "table", "(III)I"⟩
abbrev cX8_feed : ByteArray := prog_10_method_15_code
def yX8_feed : MethodName := ⟨RX8, "feed", "(JI)I"⟩
abbrev cX8_tear : ByteArray := prog_10_method_16_code
def yX8_tear : MethodName := ⟨RX8, "tear", "()I"⟩
abbrev cX8_tape : ByteArray := prog_10_method_17_code
def yX8_tape : MethodName := ⟨RX8, "tape", "(I)I"⟩
abbrev cX8_fails : ByteArray := prog_10_method_18_code
def yX8_fails : MethodName := ⟨RX8, "fails", "(II)V"⟩
abbrev cX8_needs : ByteArray := prog_10_method_19_code
def yX8_needs : MethodName := ⟨RX8, "needs", "(I)V"⟩
abbrev cX8_takes : ByteArray := prog_10_method_20_code
def yX8_takes : MethodName := ⟨RX8, "takes", "()I"⟩
abbrev cX8_isEmptyByte : ByteArray := prog_10_method_21_code
def yX8_isEmptyByte : MethodName := ⟨RX8, "isEmptyByte", "(I)Z"⟩
abbrev cX8_readBits : ByteArray := prog_10_method_22_code
def yX8_readBits : MethodName := ⟨RX8, "readBits", "(I)V"⟩
abbrev cX8_readMade : ByteArray := prog_10_method_23_code
def yX8_readMade : MethodName := ⟨RX8, "readMade", "(II)V"⟩
abbrev cX8_readGoing : ByteArray := prog_10_method_24_code
def yX8_readGoing : MethodName := ⟨RX8, "readGoing", "()V"⟩
abbrev cX8_readItem : ByteArray := prog_10_method_25_code
def yX8_readItem : MethodName := ⟨RX8, "readItem", "(II)V"⟩
abbrev cX8_readRecord : ByteArray := prog_10_method_26_code
def yX8_readRecord : MethodName := ⟨RX8, "readRecord", "(I)V"⟩
abbrev cX8_readBlock : ByteArray := prog_10_method_27_code
def yX8_readBlock : MethodName := ⟨RX8, "readBlock", "()I"⟩
abbrev cX8_read : ByteArray := prog_10_method_28_code
def yX8_read : MethodName := ⟨RX8, "read", "()I"⟩
abbrev cX8_fault : ByteArray := prog_10_method_29_code
def yX8_fault : MethodName := ⟨RX8, "fault", "()I"⟩
abbrev cX8_records : ByteArray := prog_10_method_30_code
def yX8_records : MethodName := ⟨RX8, "records", "(I)I"⟩
abbrev cX8_isRecord : ByteArray := prog_10_method_31_code
def yX8_isRecord : MethodName := ⟨RX8, "isRecord", "(I)Z"⟩
abbrev cX8_has : ByteArray := prog_10_method_32_code
def yX8_has : MethodName := ⟨RX8, "has", "(III)I"⟩
abbrev cX8_at : ByteArray := prog_10_method_33_code
def yX8_at : MethodName := ⟨RX8, "at", "(III)I"⟩
abbrev cX8_together : ByteArray := prog_10_method_34_code
def yX8_together : MethodName := ⟨RX8, "together", "(II)J"⟩
abbrev cX8_ofMade : ByteArray := prog_10_method_35_code
def yX8_ofMade : MethodName := ⟨RX8, "ofMade", "(IIII)J"⟩
abbrev cX8_number : ByteArray := prog_10_method_36_code
def yX8_number : MethodName := ⟨RX8, "number", "(III)J"⟩
abbrev cX8_begin : ByteArray := prog_10_method_37_code
def yX8_begin : MethodName := ⟨RX8, "begin", "(I)I"⟩
abbrev cX8_set : ByteArray := prog_10_method_38_code
def yX8_set : MethodName := ⟨RX8, "set", "(I)I"⟩
abbrev cX8_take : ByteArray := prog_10_method_39_code
def yX8_take : MethodName := ⟨RX8, "take", "(I)I"⟩
abbrev cX8_put : ByteArray := prog_10_method_40_code
def yX8_put : MethodName := ⟨RX8, "put", "(I)V"⟩
abbrev cX8_write : ByteArray := prog_10_method_41_code
def yX8_write : MethodName := ⟨RX8, "write", "()I"⟩
abbrev cX8_copy : ByteArray := prog_10_method_42_code
def yX8_copy : MethodName := ⟨RX8, "copy", "(I)I"⟩
abbrev cX8_signed : ByteArray := prog_10_method_43_code
def yX8_signed : MethodName := ⟨RX8, "signed", "(J)I"⟩
abbrev cX8_trackOf : ByteArray := prog_10_method_44_code
def yX8_trackOf : MethodName := ⟨RX8, "trackOf", "(I)I"⟩
abbrev cX8_report : ByteArray := prog_10_method_45_code
def yX8_report : MethodName := ⟨RX8, "report", "(I)I"⟩
abbrev cX8_moves : ByteArray := prog_10_method_46_code
def yX8_moves : MethodName := ⟨RX8, "moves", "(II)V"⟩
abbrev cX8_tick : ByteArray := prog_10_method_47_code
def yX8_tick : MethodName := ⟨RX8, "tick", "(I)I"⟩
abbrev cX8_track : ByteArray := prog_10_method_48_code
def yX8_track : MethodName := ⟨RX8, "track", "(II)I"⟩
abbrev cX8_count : ByteArray := prog_10_method_49_code
def yX8_count : MethodName := ⟨RX8, "count", "(I)I"⟩
def RJ9 : String := "java/lang/Math"
def TJ9 : u_T := fun k => match k with
  | _ => ("", "", "", false)
def tyJ9 : Nat → FieldType := fun k => match k with
  | _ => .int
abbrev wsJ90 : List Cond := u_ws RJ9 TJ9 0
theorem nmJ9 : ∀ a, a < 0 → ∀ b, b < 0 → a ≠ b → (TJ9 a).2.1 ≠ (TJ9 b).2.1 := by decide +kernel
theorem tyJ9_ok : ∀ k, k < 0 → parseFieldDescriptor (TJ9 k).2.2.1 = some (tyJ9 k) := by decide +kernel
abbrev cJ9_max_7cf53 : ByteArray := prog_11_method_65_code
def yJ9_max_7cf53 : MethodName := ⟨RJ9, "max", "(II)I"⟩
def RJ10 : String := "java/lang/System"
def TJ10 : u_T := fun k => match k with
  | _ => ("", "", "", false)
def tyJ10 : Nat → FieldType := fun k => match k with
  | _ => .int
abbrev wsJ100 : List Cond := u_ws RJ10 TJ10 0
theorem nmJ10 : ∀ a, a < 0 → ∀ b, b < 0 → a ≠ b → (TJ10 a).2.1 ≠ (TJ10 b).2.1 := by decide +kernel
theorem tyJ10_ok : ∀ k, k < 0 → parseFieldDescriptor (TJ10 k).2.2.1 = some (tyJ10 k) := by decide +kernel
def RJ7 : String := "java/util/Arrays"
def TJ7 : u_T := fun k => match k with
  | _ => ("", "", "", false)
def tyJ7 : Nat → FieldType := fun k => match k with
  | _ => .int
abbrev wsJ70 : List Cond := u_ws RJ7 TJ7 0
theorem nmJ7 : ∀ a, a < 0 → ∀ b, b < 0 → a ≠ b → (TJ7 a).2.1 ≠ (TJ7 b).2.1 := by decide +kernel
theorem tyJ7_ok : ∀ k, k < 0 → parseFieldDescriptor (TJ7 k).2.2.1 = some (tyJ7 k) := by decide +kernel
abbrev cJ7_rangeCheck_23922 : ByteArray := prog_13_method_30_code
def yJ7_rangeCheck_23922 : MethodName := ⟨RJ7, "rangeCheck", "(III)V"⟩
abbrev cJ7_fill_53178 : ByteArray := prog_13_method_103_code
def yJ7_fill_53178 : MethodName := ⟨RJ7, "fill", "([II)V"⟩
abbrev cJ7_fill_fda19 : ByteArray := prog_13_method_104_code
def yJ7_fill_fda19 : MethodName := ⟨RJ7, "fill", "([IIII)V"⟩
def RL : String := "ReportBlocksLaw"
abbrev cL_law : ByteArray := code
def yL_law : MethodName := ⟨RL, "law", "([I)Z"⟩
abbrev vwCl : List vw_C := [(RX0, TX0, 7), (RX1, TX1, 6), (RX2, TX2, 3), (RX3, TX3, 6), (RX4, TX4, 2), (RX5, TX5, 9), (RX6, TX6, 5), (RX7, TX7, 10), (RX8, TX8, 46)]
