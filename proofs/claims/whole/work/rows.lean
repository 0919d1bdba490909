section
-- ===== PART A: goes FIRST, ahead of the names: the tables' words, and 'selects' of the private methods out of them =====
/-- a private method of a class that the tables say can be made, by its rows of tables_1 -/
def lw_okq (q : MethodName × Nat) : Prop := (q.1.cls ≠ "java/lang/invoke/MethodHandle" ∧ q.1.cls ≠ "java/lang/invoke/VarHandle") ∧ Cond.instantiable q.1.cls q.2 ∈ tables_1 ∧ Cond.privateMethod q.1 ∈ tables_1 ∧ Cond.instanceMethod q.1 ∈ tables_1
theorem lw_p0 : lw_okq (⟨"DriftKin", "yearsStand", "()Z"⟩, 9) := ⟨⟨by decide +kernel, by decide +kernel⟩, List.mem_of_getElem? (i := 14) (by decide +kernel), List.mem_of_getElem? (i := 378) (by decide +kernel), List.mem_of_getElem? (i := 379) (by decide +kernel)⟩
theorem lw_p1 : lw_okq (⟨"DriftKin", "firstWinningCut", "(I)I"⟩, 9) := ⟨⟨by decide +kernel, by decide +kernel⟩, List.mem_of_getElem? (i := 14) (by decide +kernel), List.mem_of_getElem? (i := 541) (by decide +kernel), List.mem_of_getElem? (i := 542) (by decide +kernel)⟩
theorem lw_p2 : lw_okq (⟨"DriftKin", "worth", "(III)I"⟩, 9) := ⟨⟨by decide +kernel, by decide +kernel⟩, List.mem_of_getElem? (i := 14) (by decide +kernel), List.mem_of_getElem? (i := 545) (by decide +kernel), List.mem_of_getElem? (i := 546) (by decide +kernel)⟩
theorem lw_p3 : lw_okq (⟨"DriftKinModel", "faultOf", "()I"⟩, 15) := ⟨⟨by decide +kernel, by decide +kernel⟩, List.mem_of_getElem? (i := 597) (by decide +kernel), List.mem_of_getElem? (i := 681) (by decide +kernel), List.mem_of_getElem? (i := 682) (by decide +kernel)⟩
theorem lw_p4 : lw_okq (⟨"DriftKinModel", "goYears", "()I"⟩, 15) := ⟨⟨by decide +kernel, by decide +kernel⟩, List.mem_of_getElem? (i := 597) (by decide +kernel), List.mem_of_getElem? (i := 695) (by decide +kernel), List.mem_of_getElem? (i := 696) (by decide +kernel)⟩
theorem lw_p5 : lw_okq (⟨"DriftKinModel", "asNow", "()V"⟩, 15) := ⟨⟨by decide +kernel, by decide +kernel⟩, List.mem_of_getElem? (i := 597) (by decide +kernel), List.mem_of_getElem? (i := 699) (by decide +kernel), List.mem_of_getElem? (i := 700) (by decide +kernel)⟩
theorem lw_p6 : lw_okq (⟨"DriftKinModel", "houseAct", "(III)I"⟩, 15) := ⟨⟨by decide +kernel, by decide +kernel⟩, List.mem_of_getElem? (i := 597) (by decide +kernel), List.mem_of_getElem? (i := 703) (by decide +kernel), List.mem_of_getElem? (i := 704) (by decide +kernel)⟩
theorem lw_p7 : lw_okq (⟨"DriftKinModel", "wed", "(II)I"⟩, 15) := ⟨⟨by decide +kernel, by decide +kernel⟩, List.mem_of_getElem? (i := 597) (by decide +kernel), List.mem_of_getElem? (i := 707) (by decide +kernel), List.mem_of_getElem? (i := 708) (by decide +kernel)⟩
theorem lw_p8 : lw_okq (⟨"DriftKinModel", "part", "(I)I"⟩, 15) := ⟨⟨by decide +kernel, by decide +kernel⟩, List.mem_of_getElem? (i := 597) (by decide +kernel), List.mem_of_getElem? (i := 711) (by decide +kernel), List.mem_of_getElem? (i := 712) (by decide +kernel)⟩
theorem lw_p9 : lw_okq (⟨"DriftKinModel", "burn", "(I)I"⟩, 15) := ⟨⟨by decide +kernel, by decide +kernel⟩, List.mem_of_getElem? (i := 597) (by decide +kernel), List.mem_of_getElem? (i := 715) (by decide +kernel), List.mem_of_getElem? (i := 716) (by decide +kernel)⟩
theorem lw_p10 : lw_okq (⟨"DriftKinModel", "take", "(II)I"⟩, 15) := ⟨⟨by decide +kernel, by decide +kernel⟩, List.mem_of_getElem? (i := 597) (by decide +kernel), List.mem_of_getElem? (i := 719) (by decide +kernel), List.mem_of_getElem? (i := 720) (by decide +kernel)⟩
theorem lw_p11 : lw_okq (⟨"DriftKinModel", "endYear", "()I"⟩, 15) := ⟨⟨by decide +kernel, by decide +kernel⟩, List.mem_of_getElem? (i := 597) (by decide +kernel), List.mem_of_getElem? (i := 723) (by decide +kernel), List.mem_of_getElem? (i := 724) (by decide +kernel)⟩
theorem lw_p12 : lw_okq (⟨"DriftKinModel", "comeIn", "(I)I"⟩, 15) := ⟨⟨by decide +kernel, by decide +kernel⟩, List.mem_of_getElem? (i := 597) (by decide +kernel), List.mem_of_getElem? (i := 727) (by decide +kernel), List.mem_of_getElem? (i := 728) (by decide +kernel)⟩
theorem lw_p13 : lw_okq (⟨"DriftKinModel", "barOfYears", "()I"⟩, 15) := ⟨⟨by decide +kernel, by decide +kernel⟩, List.mem_of_getElem? (i := 597) (by decide +kernel), List.mem_of_getElem? (i := 735) (by decide +kernel), List.mem_of_getElem? (i := 736) (by decide +kernel)⟩
theorem lw_p14 : lw_okq (⟨"DriftKinModel", "layPlanks", "()V"⟩, 15) := ⟨⟨by decide +kernel, by decide +kernel⟩, List.mem_of_getElem? (i := 597) (by decide +kernel), List.mem_of_getElem? (i := 758) (by decide +kernel), List.mem_of_getElem? (i := 759) (by decide +kernel)⟩
theorem lw_p15 : lw_okq (⟨"DriftKinModel", "joins", "(II)Z"⟩, 15) := ⟨⟨by decide +kernel, by decide +kernel⟩, List.mem_of_getElem? (i := 597) (by decide +kernel), List.mem_of_getElem? (i := 765) (by decide +kernel), List.mem_of_getElem? (i := 766) (by decide +kernel)⟩
def lw_privs_1 : List (MethodName × Nat) := [(⟨"DriftKin", "yearsStand", "()Z"⟩, 9), (⟨"DriftKin", "firstWinningCut", "(I)I"⟩, 9), (⟨"DriftKin", "worth", "(III)I"⟩, 9), (⟨"DriftKinModel", "faultOf", "()I"⟩, 15), (⟨"DriftKinModel", "goYears", "()I"⟩, 15), (⟨"DriftKinModel", "asNow", "()V"⟩, 15), (⟨"DriftKinModel", "houseAct", "(III)I"⟩, 15), (⟨"DriftKinModel", "wed", "(II)I"⟩, 15), (⟨"DriftKinModel", "part", "(I)I"⟩, 15), (⟨"DriftKinModel", "burn", "(I)I"⟩, 15), (⟨"DriftKinModel", "take", "(II)I"⟩, 15), (⟨"DriftKinModel", "endYear", "()I"⟩, 15), (⟨"DriftKinModel", "comeIn", "(I)I"⟩, 15), (⟨"DriftKinModel", "barOfYears", "()I"⟩, 15), (⟨"DriftKinModel", "layPlanks", "()V"⟩, 15), (⟨"DriftKinModel", "joins", "(II)Z"⟩, 15)]
theorem lw_r1 : ∀ q ∈ lw_privs_1, lw_okq q := List.forall_mem_cons.mpr ⟨lw_p0, List.forall_mem_cons.mpr ⟨lw_p1, List.forall_mem_cons.mpr ⟨lw_p2, List.forall_mem_cons.mpr ⟨lw_p3, List.forall_mem_cons.mpr ⟨lw_p4, List.forall_mem_cons.mpr ⟨lw_p5, List.forall_mem_cons.mpr ⟨lw_p6, List.forall_mem_cons.mpr ⟨lw_p7, List.forall_mem_cons.mpr ⟨lw_p8, List.forall_mem_cons.mpr ⟨lw_p9, List.forall_mem_cons.mpr ⟨lw_p10, List.forall_mem_cons.mpr ⟨lw_p11, List.forall_mem_cons.mpr ⟨lw_p12, List.forall_mem_cons.mpr ⟨lw_p13, List.forall_mem_cons.mpr ⟨lw_p14, List.forall_mem_cons.mpr ⟨lw_p15, fun _ h => absurd h List.not_mem_nil⟩⟩⟩⟩⟩⟩⟩⟩⟩⟩⟩⟩⟩⟩⟩⟩
theorem lw_p16 : lw_okq (⟨"DriftKinModel", "sameBy", "(III)I"⟩, 15) := ⟨⟨by decide +kernel, by decide +kernel⟩, List.mem_of_getElem? (i := 597) (by decide +kernel), List.mem_of_getElem? (i := 778) (by decide +kernel), List.mem_of_getElem? (i := 779) (by decide +kernel)⟩
theorem lw_p17 : lw_okq (⟨"DriftKinModel", "layTwos", "()V"⟩, 15) := ⟨⟨by decide +kernel, by decide +kernel⟩, List.mem_of_getElem? (i := 597) (by decide +kernel), List.mem_of_getElem? (i := 793) (by decide +kernel), List.mem_of_getElem? (i := 794) (by decide +kernel)⟩
theorem lw_p18 : lw_okq (⟨"DriftKinModel", "mayWed", "(II)Z"⟩, 15) := ⟨⟨by decide +kernel, by decide +kernel⟩, List.mem_of_getElem? (i := 597) (by decide +kernel), List.mem_of_getElem? (i := 797) (by decide +kernel), List.mem_of_getElem? (i := 798) (by decide +kernel)⟩
theorem lw_p19 : lw_okq (⟨"DriftKinModel", "wheelSet", "()I"⟩, 15) := ⟨⟨by decide +kernel, by decide +kernel⟩, List.mem_of_getElem? (i := 597) (by decide +kernel), List.mem_of_getElem? (i := 813) (by decide +kernel), List.mem_of_getElem? (i := 814) (by decide +kernel)⟩
def lw_privs_2 : List (MethodName × Nat) := [(⟨"DriftKinModel", "sameBy", "(III)I"⟩, 15), (⟨"DriftKinModel", "layTwos", "()V"⟩, 15), (⟨"DriftKinModel", "mayWed", "(II)Z"⟩, 15), (⟨"DriftKinModel", "wheelSet", "()I"⟩, 15)]
theorem lw_r2 : ∀ q ∈ lw_privs_2, lw_okq q := List.forall_mem_cons.mpr ⟨lw_p16, List.forall_mem_cons.mpr ⟨lw_p17, List.forall_mem_cons.mpr ⟨lw_p18, List.forall_mem_cons.mpr ⟨lw_p19, fun _ h => absurd h List.not_mem_nil⟩⟩⟩⟩
def lw_privs : List (MethodName × Nat) := lw_privs_1 ++ (lw_privs_2)
def lw_tbl : List Cond := k2_sels lw_privs ++ tables_1
theorem lw_privs_ok : ∀ q ∈ lw_privs, lw_okq q := by
  show ∀ q ∈ lw_privs_1 ++ (lw_privs_2), lw_okq q
  exact List.forall_mem_append.mpr ⟨lw_r1, lw_r2⟩
-- ===== end of PART A; then your names; then what follows =====
/-! ===== BEGIN printed: names, fields, word lists, decode rows ===== -/
def RX0 : String := "DriftKin$Houses"
def TX0 : u_T := fun k => match k with
  | 0 => ("DriftKin$Houses", "piece", "[I", true)
  | 1 => ("DriftKin$Houses", "partner", "[I", true)
  | _ => ("DriftKin$Houses", "children", "[I", true)
def tyX0 : Nat → FieldType := fun k => match k with
  | 0 => .array .int
  | 1 => .array .int
  | _ => .array .int
abbrev wsX00 : List Cond := u_ws RX0 TX0 3
theorem nmX0 : ∀ a, a < 3 → ∀ b, b < 3 → a ≠ b → (TX0 a).2.1 ≠ (TX0 b).2.1 := by decide +kernel
theorem tyX0_ok : ∀ k, k < 3 → parseFieldDescriptor (TX0 k).2.2.1 = some (tyX0 k) := by decide +kernel
abbrev cX0_init : ByteArray := prog_2_method_1_code
def yX0_init : MethodName := ⟨RX0, "<init>", "()V"⟩
abbrev cX0_become : ByteArray := prog_2_method_2_code
def yX0_become : MethodName := ⟨RX0, "become", "(LDriftKin$Houses;)V"⟩
abbrev cX0_detail : ByteArray := prog_2_method_3_code
def yX0_detail : MethodName := ⟨RX0, "detail", "(II)I"⟩
abbrev cX0_isOfNone : ByteArray := prog_2_method_4_code
def yX0_isOfNone : MethodName := ⟨RX0, "isOfNone", "(I)Z"⟩
abbrev cX0_isWed : ByteArray := prog_2_method_5_code
def yX0_isWed : MethodName := ⟨RX0, "isWed", "(I)Z"⟩
abbrev cX0_countOfPieces : ByteArray := prog_2_method_6_code
def yX0_countOfPieces : MethodName := ⟨RX0, "countOfPieces", "()I"⟩
abbrev cX0_allChildren : ByteArray := prog_2_method_7_code
def yX0_allChildren : MethodName := ⟨RX0, "allChildren", "()I"⟩
def RX1 : String := "DriftKin$Matches"
def TX1 : u_T := fun k => match k with
  | 0 => ("DriftKin$Matches", "might", "[I", true)
  | 1 => ("DriftKin$Matches", "most", "[I", true)
  | 2 => ("DriftKin$Matches", "mate", "[I", true)
  | _ => ("DriftKin$Matches", "count", "I", false)
def tyX1 : Nat → FieldType := fun k => match k with
  | 0 => .array .int
  | 1 => .array .int
  | 2 => .array .int
  | _ => .int
abbrev wsX10 : List Cond := u_ws RX1 TX1 4
theorem nmX1 : ∀ a, a < 4 → ∀ b, b < 4 → a ≠ b → (TX1 a).2.1 ≠ (TX1 b).2.1 := by decide +kernel
theorem tyX1_ok : ∀ k, k < 4 → parseFieldDescriptor (TX1 k).2.2.1 = some (tyX1 k) := by decide +kernel
abbrev cX1_init : ByteArray := prog_3_method_1_code
def yX1_init : MethodName := ⟨RX1, "<init>", "()V"⟩
abbrev cX1_find : ByteArray := prog_3_method_2_code
def yX1_find : MethodName := ⟨RX1, "find", "(LDriftKin$Shore;)V"⟩
abbrev cX1_mostOf : ByteArray := prog_3_method_3_code
def yX1_mostOf : MethodName := ⟨RX1, "mostOf", "(I)I"⟩
abbrev cX1_lowest : ByteArray := prog_3_method_4_code
def yX1_lowest : MethodName := ⟨RX1, "lowest", "(I)I"⟩
abbrev cX1_settle : ByteArray := prog_3_method_5_code
def yX1_settle : MethodName := ⟨RX1, "settle", "(II)I"⟩
def RX2 : String := "DriftKin$Pad"
def TX2 : u_T := fun k => match k with
  | 0 => ("DriftKin$Pad", "signs", "[I", true)
  | _ => ("DriftKin$Pad", "count", "I", false)
def tyX2 : Nat → FieldType := fun k => match k with
  | 0 => .array .int
  | _ => .int
abbrev wsX20 : List Cond := u_ws RX2 TX2 2
theorem nmX2 : ∀ a, a < 2 → ∀ b, b < 2 → a ≠ b → (TX2 a).2.1 ≠ (TX2 b).2.1 := by decide +kernel
theorem tyX2_ok : ∀ k, k < 2 → parseFieldDescriptor (TX2 k).2.2.1 = some (tyX2 k) := by decide +kernel
abbrev cX2_init : ByteArray := prog_4_method_1_code
def yX2_init : MethodName := ⟨RX2, "<init>", "()V"⟩
abbrev cX2_firstWrong : ByteArray := prog_4_method_2_code
def yX2_firstWrong : MethodName := ⟨RX2, "firstWrong", "()I"⟩
abbrev cX2_dueAfter : ByteArray := prog_4_method_3_code
def yX2_dueAfter : MethodName := ⟨RX2, "dueAfter", "(II)I"⟩
abbrev cX2_isPieceSign : ByteArray := prog_4_method_4_code
def yX2_isPieceSign : MethodName := ⟨RX2, "isPieceSign", "(I)Z"⟩
abbrev cX2_isHouseSign : ByteArray := prog_4_method_5_code
def yX2_isHouseSign : MethodName := ⟨RX2, "isHouseSign", "(I)Z"⟩
def RX3 : String := "DriftKin$Pieces"
def TX3 : u_T := fun k => match k with
  | 0 => ("DriftKin$Pieces", "wreck", "[I", true)
  | 1 => ("DriftKin$Pieces", "wood", "[I", true)
  | 2 => ("DriftKin$Pieces", "length", "[I", true)
  | 3 => ("DriftKin$Pieces", "left", "[I", true)
  | 4 => ("DriftKin$Pieces", "right", "[I", true)
  | 5 => ("DriftKin$Pieces", "place", "[I", true)
  | _ => ("DriftKin$Pieces", "rings", "[I", true)
def tyX3 : Nat → FieldType := fun k => match k with
  | 0 => .array .int
  | 1 => .array .int
  | 2 => .array .int
  | 3 => .array .int
  | 4 => .array .int
  | 5 => .array .int
  | _ => .array .int
abbrev wsX30 : List Cond := u_ws RX3 TX3 7
theorem nmX3 : ∀ a, a < 7 → ∀ b, b < 7 → a ≠ b → (TX3 a).2.1 ≠ (TX3 b).2.1 := by decide +kernel
theorem tyX3_ok : ∀ k, k < 7 → parseFieldDescriptor (TX3 k).2.2.1 = some (tyX3 k) := by decide +kernel
abbrev cX3_init : ByteArray := prog_5_method_1_code
def yX3_init : MethodName := ⟨RX3, "<init>", "()V"⟩
abbrev cX3_become : ByteArray := prog_5_method_2_code
def yX3_become : MethodName := ⟨RX3, "become", "(LDriftKin$Pieces;)V"⟩
abbrev cX3_detail : ByteArray := prog_5_method_3_code
def yX3_detail : MethodName := ⟨RX3, "detail", "(II)I"⟩
abbrev cX3_bitsAt : ByteArray := prog_5_method_4_code
def yX3_bitsAt : MethodName := ⟨RX3, "bitsAt", "(I)I"⟩
abbrev cX3_bitsNotBurnt : ByteArray := prog_5_method_5_code
def yX3_bitsNotBurnt : MethodName := ⟨RX3, "bitsNotBurnt", "()I"⟩
abbrev cX3_lengthOf : ByteArray := prog_5_method_6_code
def yX3_lengthOf : MethodName := ⟨RX3, "lengthOf", "(I)I"⟩
abbrev cX3_joins : ByteArray := prog_5_method_7_code
def yX3_joins : MethodName := ⟨RX3, "joins", "(II)Z"⟩
def RX4 : String := "DriftKin$Planks"
def TX4 : u_T := fun k => match k with
  | 0 => ("DriftKin$Planks", "before", "[I", true)
  | 1 => ("DriftKin$Planks", "fewest", "[I", true)
  | 2 => ("DriftKin$Planks", "lasts", "[I", true)
  | _ => ("DriftKin$Planks", "usable", "I", false)
def tyX4 : Nat → FieldType := fun k => match k with
  | 0 => .array .int
  | 1 => .array .int
  | 2 => .array .int
  | _ => .int
abbrev wsX40 : List Cond := u_ws RX4 TX4 4
theorem nmX4 : ∀ a, a < 4 → ∀ b, b < 4 → a ≠ b → (TX4 a).2.1 ≠ (TX4 b).2.1 := by decide +kernel
theorem tyX4_ok : ∀ k, k < 4 → parseFieldDescriptor (TX4 k).2.2.1 = some (tyX4 k) := by decide +kernel
abbrev cX4_init : ByteArray := prog_6_method_1_code
def yX4_init : MethodName := ⟨RX4, "<init>", "()V"⟩
abbrev cX4_lay : ByteArray := prog_6_method_2_code
def yX4_lay : MethodName := ⟨RX4, "lay", "(LDriftKin$Pieces;)V"⟩
abbrev cX4_joinedBy : ByteArray := prog_6_method_3_code
def yX4_joinedBy : MethodName := ⟨RX4, "joinedBy", "(LDriftKin$Pieces;I)I"⟩
abbrev cX4_layLast : ByteArray := prog_6_method_4_code
def yX4_layLast : MethodName := ⟨RX4, "layLast", "(I)V"⟩
abbrev cX4_longestBits : ByteArray := prog_6_method_5_code
def yX4_longestBits : MethodName := ⟨RX4, "longestBits", "(LDriftKin$Pieces;)I"⟩
def RX5 : String := "DriftKin$Shore"
def TX5 : u_T := fun k => match k with
  | 0 => ("DriftKin$Shore", "pieces", "LDriftKin$Pieces;", true)
  | 1 => ("DriftKin$Shore", "houses", "LDriftKin$Houses;", true)
  | 2 => ("DriftKin$Shore", "sights", "LDriftKin$Sights;", true)
  | _ => ("DriftKin$Shore", "year", "I", false)
def tyX5 : Nat → FieldType := fun k => match k with
  | 0 => .object "DriftKin$Pieces"
  | 1 => .object "DriftKin$Houses"
  | 2 => .object "DriftKin$Sights"
  | _ => .int
abbrev wsX50 : List Cond := u_ws RX5 TX5 4
theorem nmX5 : ∀ a, a < 4 → ∀ b, b < 4 → a ≠ b → (TX5 a).2.1 ≠ (TX5 b).2.1 := by decide +kernel
theorem tyX5_ok : ∀ k, k < 4 → parseFieldDescriptor (TX5 k).2.2.1 = some (tyX5 k) := by decide +kernel
abbrev cX5_init : ByteArray := prog_7_method_1_code
def yX5_init : MethodName := ⟨RX5, "<init>", "()V"⟩
abbrev cX5_become : ByteArray := prog_7_method_2_code
def yX5_become : MethodName := ⟨RX5, "become", "(LDriftKin$Shore;)V"⟩
abbrev cX5_comeIn : ByteArray := prog_7_method_3_code
def yX5_comeIn : MethodName := ⟨RX5, "comeIn", "(I)I"⟩
abbrev cX5_takeHome : ByteArray := prog_7_method_4_code
def yX5_takeHome : MethodName := ⟨RX5, "takeHome", "(II)I"⟩
abbrev cX5_marry : ByteArray := prog_7_method_5_code
def yX5_marry : MethodName := ⟨RX5, "marry", "(II)I"⟩
abbrev cX5_part : ByteArray := prog_7_method_6_code
def yX5_part : MethodName := ⟨RX5, "part", "(I)I"⟩
abbrev cX5_burn : ByteArray := prog_7_method_7_code
def yX5_burn : MethodName := ⟨RX5, "burn", "(I)I"⟩
abbrev cX5_passYear : ByteArray := prog_7_method_8_code
def yX5_passYear : MethodName := ⟨RX5, "passYear", "()I"⟩
abbrev cX5_wreckOf : ByteArray := prog_7_method_9_code
def yX5_wreckOf : MethodName := ⟨RX5, "wreckOf", "(I)I"⟩
abbrev cX5_mightWed : ByteArray := prog_7_method_10_code
def yX5_mightWed : MethodName := ⟨RX5, "mightWed", "(II)Z"⟩
abbrev cX5_isFree : ByteArray := prog_7_method_11_code
def yX5_isFree : MethodName := ⟨RX5, "isFree", "(I)Z"⟩
def RX6 : String := "DriftKin$Sights"
def TX6 : u_T := fun k => match k with
  | 0 => ("DriftKin$Sights", "house", "[I", true)
  | 1 => ("DriftKin$Sights", "reach", "[I", true)
  | 2 => ("DriftKin$Sights", "sounded", "[I", true)
  | _ => ("DriftKin$Sights", "count", "I", false)
def tyX6 : Nat → FieldType := fun k => match k with
  | 0 => .array .int
  | 1 => .array .int
  | 2 => .array .int
  | _ => .int
abbrev wsX60 : List Cond := u_ws RX6 TX6 4
theorem nmX6 : ∀ a, a < 4 → ∀ b, b < 4 → a ≠ b → (TX6 a).2.1 ≠ (TX6 b).2.1 := by decide +kernel
theorem tyX6_ok : ∀ k, k < 4 → parseFieldDescriptor (TX6 k).2.2.1 = some (tyX6 k) := by decide +kernel
abbrev cX6_init : ByteArray := prog_8_method_1_code
def yX6_init : MethodName := ⟨RX6, "<init>", "()V"⟩
abbrev cX6_become : ByteArray := prog_8_method_2_code
def yX6_become : MethodName := ⟨RX6, "become", "(LDriftKin$Sights;)V"⟩
abbrev cX6_add : ByteArray := prog_8_method_3_code
def yX6_add : MethodName := ⟨RX6, "add", "(IIZ)V"⟩
abbrev cX6_bitsLeft : ByteArray := prog_8_method_4_code
def yX6_bitsLeft : MethodName := ⟨RX6, "bitsLeft", "()I"⟩
def RX7 : String := "DriftKin$Years"
def TX7 : u_T := fun k => match k with
  | 0 => ("DriftKin$Years", "end", "LDriftKin$Shore;", true)
  | 1 => ("DriftKin$Years", "acts", "I", false)
  | 2 => ("DriftKin$Years", "why", "I", false)
  | _ => ("DriftKin$Years", "weddings", "I", false)
def tyX7 : Nat → FieldType := fun k => match k with
  | 0 => .object "DriftKin$Shore"
  | 1 => .int
  | 2 => .int
  | _ => .int
abbrev wsX70 : List Cond := u_ws RX7 TX7 4
theorem nmX7 : ∀ a, a < 4 → ∀ b, b < 4 → a ≠ b → (TX7 a).2.1 ≠ (TX7 b).2.1 := by decide +kernel
theorem tyX7_ok : ∀ k, k < 4 → parseFieldDescriptor (TX7 k).2.2.1 = some (tyX7 k) := by decide +kernel
abbrev cX7_init : ByteArray := prog_9_method_1_code
def yX7_init : MethodName := ⟨RX7, "<init>", "()V"⟩
abbrev cX7_begin : ByteArray := prog_9_method_2_code
def yX7_begin : MethodName := ⟨RX7, "begin", "(LDriftKin$Shore;)V"⟩
abbrev cX7_tell : ByteArray := prog_9_method_3_code
def yX7_tell : MethodName := ⟨RX7, "tell", "(LDriftKin$Pad;LDriftKin$Shore;)V"⟩
abbrev cX7_homeAct : ByteArray := prog_9_method_4_code
def yX7_homeAct : MethodName := ⟨RX7, "homeAct", "(II)I"⟩
abbrev cX7_wed : ByteArray := prog_9_method_5_code
def yX7_wed : MethodName := ⟨RX7, "wed", "(II)I"⟩
abbrev cX7_draw : ByteArray := prog_9_method_6_code
def yX7_draw : MethodName := ⟨RX7, "draw", "(IILDriftKin$Shore;)V"⟩
abbrev cX7_drawnAct : ByteArray := prog_9_method_7_code
def yX7_drawnAct : MethodName := ⟨RX7, "drawnAct", "(IIII)V"⟩
def RX8 : String := "DriftKin"
def TX8 : u_T := fun k => match k with
  | 0 => ("DriftKin", "now", "LDriftKin$Shore;", true)
  | 1 => ("DriftKin", "firstImage", "LDriftKin$Shore;", true)
  | 2 => ("DriftKin", "secondImage", "LDriftKin$Shore;", true)
  | 3 => ("DriftKin", "firstKept", "Z", false)
  | 4 => ("DriftKin", "secondKept", "Z", false)
  | 5 => ("DriftKin", "pad", "LDriftKin$Pad;", true)
  | 6 => ("DriftKin", "years", "LDriftKin$Years;", true)
  | 7 => ("DriftKin", "planks", "LDriftKin$Planks;", true)
  | _ => ("DriftKin", "matches", "LDriftKin$Matches;", true)
def tyX8 : Nat → FieldType := fun k => match k with
  | 0 => .object "DriftKin$Shore"
  | 1 => .object "DriftKin$Shore"
  | 2 => .object "DriftKin$Shore"
  | 3 => .boolean
  | 4 => .boolean
  | 5 => .object "DriftKin$Pad"
  | 6 => .object "DriftKin$Years"
  | 7 => .object "DriftKin$Planks"
  | _ => .object "DriftKin$Matches"
abbrev wsX80 : List Cond := u_ws RX8 TX8 9
theorem nmX8 : ∀ a, a < 9 → ∀ b, b < 9 → a ≠ b → (TX8 a).2.1 ≠ (TX8 b).2.1 := by decide +kernel
theorem tyX8_ok : ∀ k, k < 9 → parseFieldDescriptor (TX8 k).2.2.1 = some (tyX8 k) := by decide +kernel
abbrev cX8_init : ByteArray := prog_1_method_1_code
def yX8_init : MethodName := ⟨RX8, "<init>", "()V"⟩
abbrev cX8_piece : ByteArray := prog_1_method_2_code
def yX8_piece : MethodName := ⟨RX8, "piece", "(IIII)I"⟩
abbrev cX8_ends : ByteArray := prog_1_method_3_code
def yX8_ends : MethodName := ⟨RX8, "ends", "(III)I"⟩
abbrev cX8_rings : ByteArray := prog_1_method_4_code
def yX8_rings : MethodName := ⟨RX8, "rings", "(II)I"⟩
abbrev cX8_say : ByteArray := prog_1_method_5_code
def yX8_say : MethodName := ⟨RX8, "say", "(I)I"⟩
abbrev cX8_wipe : ByteArray := prog_1_method_6_code
def yX8_wipe : MethodName := ⟨RX8, "wipe", "()I"⟩
abbrev cX8_fault : ByteArray := prog_1_method_7_code
def yX8_fault : MethodName := ⟨RX8, "fault", "()I"⟩
abbrev cX8_judge : ByteArray := prog_1_method_8_code
def yX8_judge : MethodName := ⟨RX8, "judge", "(I)I"⟩
abbrev cX8_done : ByteArray := prog_1_method_9_code
def yX8_done : MethodName := ⟨RX8, "done", "()I"⟩
abbrev cX8_where : ByteArray := prog_1_method_10_code
def yX8_where : MethodName := ⟨RX8, "where", "(I)I"⟩
abbrev cX8_behind : ByteArray := prog_1_method_11_code
def yX8_behind : MethodName := ⟨RX8, "behind", "(II)I"⟩
abbrev cX8_then : ByteArray := prog_1_method_12_code
def yX8_then : MethodName := ⟨RX8, "then", "(I)I"⟩
abbrev cX8_yearsStand : ByteArray := prog_1_method_13_code
def yX8_yearsStand : MethodName := ⟨RX8, "yearsStand", "()Z"⟩
abbrev cX8_longest : ByteArray := prog_1_method_14_code
def yX8_longest : MethodName := ⟨RX8, "longest", "(I)I"⟩
abbrev cX8_deck : ByteArray := prog_1_method_15_code
def yX8_deck : MethodName := ⟨RX8, "deck", "()I"⟩
abbrev cX8_same : ByteArray := prog_1_method_16_code
def yX8_same : MethodName := ⟨RX8, "same", "(III)I"⟩
abbrev cX8_lie : ByteArray := prog_1_method_17_code
def yX8_lie : MethodName := ⟨RX8, "lie", "(III)I"⟩
abbrev cX8_match : ByteArray := prog_1_method_18_code
def yX8_match : MethodName := ⟨RX8, "match", "(I)I"⟩
abbrev cX8_heard : ByteArray := prog_1_method_19_code
def yX8_heard : MethodName := ⟨RX8, "heard", "(IIZ)I"⟩
abbrev cX8_forget : ByteArray := prog_1_method_20_code
def yX8_forget : MethodName := ⟨RX8, "forget", "()I"⟩
abbrev cX8_wheel : ByteArray := prog_1_method_21_code
def yX8_wheel : MethodName := ⟨RX8, "wheel", "()I"⟩
abbrev cX8_ask : ByteArray := prog_1_method_22_code
def yX8_ask : MethodName := ⟨RX8, "ask", "(I)I"⟩
abbrev cX8_saw : ByteArray := prog_1_method_23_code
def yX8_saw : MethodName := ⟨RX8, "saw", "(II)I"⟩
abbrev cX8_soon : ByteArray := prog_1_method_24_code
def yX8_soon : MethodName := ⟨RX8, "soon", "(IIII)J"⟩
abbrev cX8_book : ByteArray := prog_1_method_25_code
def yX8_book : MethodName := ⟨RX8, "book", "(III)I"⟩
abbrev cX8_image : ByteArray := prog_1_method_26_code
def yX8_image : MethodName := ⟨RX8, "image", "(I)I"⟩
abbrev cX8_restore : ByteArray := prog_1_method_27_code
def yX8_restore : MethodName := ⟨RX8, "restore", "(I)I"⟩
abbrev cX8_told : ByteArray := prog_1_method_28_code
def yX8_told : MethodName := ⟨RX8, "told", "(I)I"⟩
abbrev cX8_within : ByteArray := prog_1_method_29_code
def yX8_within : MethodName := ⟨RX8, "within", "(III)Z"⟩
abbrev cX8_isPiece : ByteArray := prog_1_method_30_code
def yX8_isPiece : MethodName := ⟨RX8, "isPiece", "(I)Z"⟩
abbrev cX8_isHouse : ByteArray := prog_1_method_31_code
def yX8_isHouse : MethodName := ⟨RX8, "isHouse", "(I)Z"⟩
abbrev cX8_has : ByteArray := prog_1_method_32_code
def yX8_has : MethodName := ⟨RX8, "has", "(II)Z"⟩
abbrev cX8_at : ByteArray := prog_1_method_33_code
def yX8_at : MethodName := ⟨RX8, "at", "([II)I"⟩
abbrev cX8_put : ByteArray := prog_1_method_34_code
def yX8_put : MethodName := ⟨RX8, "put", "([III)V"⟩
abbrev cX8_fill : ByteArray := prog_1_method_35_code
def yX8_fill : MethodName := ⟨RX8, "fill", "([II)V"⟩
abbrev cX8_copy : ByteArray := prog_1_method_36_code
def yX8_copy : MethodName := ⟨RX8, "copy", "([I[I)V"⟩
abbrev cX8_digit : ByteArray := prog_1_method_37_code
def yX8_digit : MethodName := ⟨RX8, "digit", "(II)I"⟩
abbrev cX8_alike : ByteArray := prog_1_method_38_code
def yX8_alike : MethodName := ⟨RX8, "alike", "(III)I"⟩
abbrev cX8_bitsNear : ByteArray := prog_1_method_39_code
def yX8_bitsNear : MethodName := ⟨RX8, "bitsNear", "(II)I"⟩
abbrev cX8_firstWinningCut : ByteArray := prog_1_method_40_code
def yX8_firstWinningCut : MethodName := ⟨RX8, "firstWinningCut", "(I)I"⟩
abbrev cX8_worth : ByteArray := prog_1_method_41_code
def yX8_worth : MethodName := ⟨RX8, "worth", "(III)I"⟩
abbrev cX8_power : ByteArray := prog_1_method_42_code
def yX8_power : MethodName := ⟨RX8, "power", "(II)J"⟩
abbrev cX8_greatestDivisor : ByteArray := prog_1_method_43_code
def yX8_greatestDivisor : MethodName := ⟨RX8, "greatestDivisor", "(JJ)J"⟩
def RX9 : String := "DriftKinModel"
def TX9 : u_T := fun k => match k with
  | 0 => ("DriftKinModel", "book", "[I", true)
  | 1 => ("DriftKinModel", "now", "[I", true)
  | 2 => ("DriftKinModel", "of", "[I", true)
  | 3 => ("DriftKinModel", "sights", "I", false)
  | 4 => ("DriftKinModel", "sight", "[I", true)
  | 5 => ("DriftKinModel", "signs", "I", false)
  | 6 => ("DriftKinModel", "pad", "[I", true)
  | 7 => ("DriftKinModel", "weddings", "I", false)
  | 8 => ("DriftKinModel", "reason", "I", false)
  | 9 => ("DriftKinModel", "acts", "I", false)
  | 10 => ("DriftKinModel", "lasts", "[I", true)
  | 11 => ("DriftKinModel", "fewest", "[I", true)
  | 12 => ("DriftKinModel", "twos", "[I", true)
  | 13 => ("DriftKinModel", "image", "[I", true)
  | _ => ("DriftKinModel", "isKept", "[Z", true)
def tyX9 : Nat → FieldType := fun k => match k with
  | 0 => .array .int
  | 1 => .array .int
  | 2 => .array .int
  | 3 => .int
  | 4 => .array .int
  | 5 => .int
  | 6 => .array .int
  | 7 => .int
  | 8 => .int
  | 9 => .int
  | 10 => .array .int
  | 11 => .array .int
  | 12 => .array .int
  | 13 => .array .int
  | _ => .array .boolean
abbrev wsX90 : List Cond := u_ws RX9 TX9 15
theorem nmX9 : ∀ a, a < 15 → ∀ b, b < 15 → a ≠ b → (TX9 a).2.1 ≠ (TX9 b).2.1 := by decide +kernel
theorem tyX9_ok : ∀ k, k < 15 → parseFieldDescriptor (TX9 k).2.2.1 = some (tyX9 k) := by decide +kernel
abbrev cX9_init : ByteArray := prog_11_method_1_code
def yX9_init : MethodName := ⟨RX9, "<init>", "()V"⟩
abbrev cX9_in : ByteArray := prog_11_method_2_code
def yX9_in : MethodName := ⟨RX9, "in", "(III)Z"⟩
abbrev cX9_has : ByteArray := prog_11_method_3_code
def yX9_has : MethodName := ⟨RX9, "has", "(II)Z"⟩
abbrev cX9_bits : ByteArray := prog_11_method_4_code
def yX9_bits : MethodName := ⟨RX9, "bits", "(I)I"⟩
abbrev cX9_isPiece : ByteArray := prog_11_method_5_code
def yX9_isPiece : MethodName := ⟨RX9, "isPiece", "(I)Z"⟩
abbrev cX9_isHouse : ByteArray := prog_11_method_6_code
def yX9_isHouse : MethodName := ⟨RX9, "isHouse", "(I)Z"⟩
abbrev cX9_piece : ByteArray := prog_11_method_7_code
def yX9_piece : MethodName := ⟨RX9, "piece", "(IIII)I"⟩
abbrev cX9_ends : ByteArray := prog_11_method_8_code
def yX9_ends : MethodName := ⟨RX9, "ends", "(III)I"⟩
abbrev cX9_rings : ByteArray := prog_11_method_9_code
def yX9_rings : MethodName := ⟨RX9, "rings", "(II)I"⟩
abbrev cX9_say : ByteArray := prog_11_method_10_code
def yX9_say : MethodName := ⟨RX9, "say", "(I)I"⟩
abbrev cX9_wipe : ByteArray := prog_11_method_11_code
def yX9_wipe : MethodName := ⟨RX9, "wipe", "()I"⟩
abbrev cX9_isLetter : ByteArray := prog_11_method_12_code
def yX9_isLetter : MethodName := ⟨RX9, "isLetter", "(I)Z"⟩
abbrev cX9_isDigit : ByteArray := prog_11_method_13_code
def yX9_isDigit : MethodName := ⟨RX9, "isDigit", "(I)Z"⟩
abbrev cX9_faultOf : ByteArray := prog_11_method_14_code
def yX9_faultOf : MethodName := ⟨RX9, "faultOf", "()I"⟩
abbrev cX9_fault : ByteArray := prog_11_method_15_code
def yX9_fault : MethodName := ⟨RX9, "fault", "()I"⟩
abbrev cX9_asNow : ByteArray := prog_11_method_16_code
def yX9_asNow : MethodName := ⟨RX9, "asNow", "()V"⟩
abbrev cX9_comeIn : ByteArray := prog_11_method_17_code
def yX9_comeIn : MethodName := ⟨RX9, "comeIn", "(I)I"⟩
abbrev cX9_take : ByteArray := prog_11_method_18_code
def yX9_take : MethodName := ⟨RX9, "take", "(II)I"⟩
abbrev cX9_wed : ByteArray := prog_11_method_19_code
def yX9_wed : MethodName := ⟨RX9, "wed", "(II)I"⟩
abbrev cX9_part : ByteArray := prog_11_method_20_code
def yX9_part : MethodName := ⟨RX9, "part", "(I)I"⟩
abbrev cX9_burn : ByteArray := prog_11_method_21_code
def yX9_burn : MethodName := ⟨RX9, "burn", "(I)I"⟩
abbrev cX9_endYear : ByteArray := prog_11_method_22_code
def yX9_endYear : MethodName := ⟨RX9, "endYear", "()I"⟩
abbrev cX9_houseAct : ByteArray := prog_11_method_23_code
def yX9_houseAct : MethodName := ⟨RX9, "houseAct", "(III)I"⟩
abbrev cX9_goYears : ByteArray := prog_11_method_24_code
def yX9_goYears : MethodName := ⟨RX9, "goYears", "()I"⟩
abbrev cX9_judge : ByteArray := prog_11_method_25_code
def yX9_judge : MethodName := ⟨RX9, "judge", "(I)I"⟩
abbrev cX9_barOfYears : ByteArray := prog_11_method_26_code
def yX9_barOfYears : MethodName := ⟨RX9, "barOfYears", "()I"⟩
abbrev cX9_done : ByteArray := prog_11_method_27_code
def yX9_done : MethodName := ⟨RX9, "done", "()I"⟩
abbrev cX9_where : ByteArray := prog_11_method_28_code
def yX9_where : MethodName := ⟨RX9, "where", "(I)I"⟩
abbrev cX9_behind : ByteArray := prog_11_method_29_code
def yX9_behind : MethodName := ⟨RX9, "behind", "(II)I"⟩
abbrev cX9_then : ByteArray := prog_11_method_30_code
def yX9_then : MethodName := ⟨RX9, "then", "(I)I"⟩
abbrev cX9_joins : ByteArray := prog_11_method_31_code
def yX9_joins : MethodName := ⟨RX9, "joins", "(II)Z"⟩
abbrev cX9_layPlanks : ByteArray := prog_11_method_32_code
def yX9_layPlanks : MethodName := ⟨RX9, "layPlanks", "()V"⟩
abbrev cX9_longest : ByteArray := prog_11_method_33_code
def yX9_longest : MethodName := ⟨RX9, "longest", "(I)I"⟩
abbrev cX9_deck : ByteArray := prog_11_method_34_code
def yX9_deck : MethodName := ⟨RX9, "deck", "()I"⟩
abbrev cX9_digit : ByteArray := prog_11_method_35_code
def yX9_digit : MethodName := ⟨RX9, "digit", "(II)I"⟩
abbrev cX9_sameBy : ByteArray := prog_11_method_36_code
def yX9_sameBy : MethodName := ⟨RX9, "sameBy", "(III)I"⟩
abbrev cX9_same : ByteArray := prog_11_method_37_code
def yX9_same : MethodName := ⟨RX9, "same", "(III)I"⟩
abbrev cX9_lie : ByteArray := prog_11_method_38_code
def yX9_lie : MethodName := ⟨RX9, "lie", "(III)I"⟩
abbrev cX9_mayWed : ByteArray := prog_11_method_39_code
def yX9_mayWed : MethodName := ⟨RX9, "mayWed", "(II)Z"⟩
abbrev cX9_layTwos : ByteArray := prog_11_method_40_code
def yX9_layTwos : MethodName := ⟨RX9, "layTwos", "()V"⟩
abbrev cX9_match : ByteArray := prog_11_method_41_code
def yX9_match : MethodName := ⟨RX9, "match", "(I)I"⟩
abbrev cX9_heard : ByteArray := prog_11_method_42_code
def yX9_heard : MethodName := ⟨RX9, "heard", "(IIZ)I"⟩
abbrev cX9_forget : ByteArray := prog_11_method_43_code
def yX9_forget : MethodName := ⟨RX9, "forget", "()I"⟩
abbrev cX9_wheelSet : ByteArray := prog_11_method_44_code
def yX9_wheelSet : MethodName := ⟨RX9, "wheelSet", "()I"⟩
abbrev cX9_wheel : ByteArray := prog_11_method_45_code
def yX9_wheel : MethodName := ⟨RX9, "wheel", "()I"⟩
abbrev cX9_ask : ByteArray := prog_11_method_46_code
def yX9_ask : MethodName := ⟨RX9, "ask", "(I)I"⟩
abbrev cX9_saw : ByteArray := prog_11_method_47_code
def yX9_saw : MethodName := ⟨RX9, "saw", "(II)I"⟩
abbrev cX9_power : ByteArray := prog_11_method_48_code
def yX9_power : MethodName := ⟨RX9, "power", "(JI)J"⟩
abbrev cX9_soon : ByteArray := prog_11_method_49_code
def yX9_soon : MethodName := ⟨RX9, "soon", "(IIII)J"⟩
abbrev cX9_book : ByteArray := prog_11_method_50_code
def yX9_book : MethodName := ⟨RX9, "book", "(III)I"⟩
abbrev cX9_image : ByteArray := prog_11_method_51_code
def yX9_image : MethodName := ⟨RX9, "image", "(I)I"⟩
abbrev cX9_restore : ByteArray := prog_11_method_52_code
def yX9_restore : MethodName := ⟨RX9, "restore", "(I)I"⟩
abbrev cX9_told : ByteArray := prog_11_method_53_code
def yX9_told : MethodName := ⟨RX9, "told", "(I)I"⟩
def RJ6 : String := "java/lang/Integer"
def TJ6 : u_T := fun k => match k with
  | _ => ("", "", "", false)
def tyJ6 : Nat → FieldType := fun k => match k with
  | _ => .int
abbrev wsJ60 : List Cond := u_ws RJ6 TJ6 0
theorem nmJ6 : ∀ a, a < 0 → ∀ b, b < 0 → a ≠ b → (TJ6 a).2.1 ≠ (TJ6 b).2.1 := by decide +kernel
theorem tyJ6_ok : ∀ k, k < 0 → parseFieldDescriptor (TJ6 k).2.2.1 = some (tyJ6 k) := by decide +kernel
abbrev cJ6_bitCount_0f7a4 : ByteArray := prog_12_method_49_code
def yJ6_bitCount_0f7a4 : MethodName := ⟨RJ6, "bitCount", "(I)I"⟩
def RJ9 : String := "java/lang/Math"
def TJ9 : u_T := fun k => match k with
  | _ => ("", "", "", false)
def tyJ9 : Nat → FieldType := fun k => match k with
  | _ => .int
abbrev wsJ90 : List Cond := u_ws RJ9 TJ9 0
theorem nmJ9 : ∀ a, a < 0 → ∀ b, b < 0 → a ≠ b → (TJ9 a).2.1 ≠ (TJ9 b).2.1 := by decide +kernel
theorem tyJ9_ok : ∀ k, k < 0 → parseFieldDescriptor (TJ9 k).2.2.1 = some (tyJ9 k) := by decide +kernel
abbrev cJ9_abs_0f7a4 : ByteArray := prog_13_method_59_code
def yJ9_abs_0f7a4 : MethodName := ⟨RJ9, "abs", "(I)I"⟩
abbrev cJ9_max_7cf53 : ByteArray := prog_13_method_65_code
def yJ9_max_7cf53 : MethodName := ⟨RJ9, "max", "(II)I"⟩
def RL : String := "DriftKinLaw"
abbrev cL_law : ByteArray := code
def yL_law : MethodName := ⟨RL, "law", "([I)Z"⟩
end
section
/-! THE LAYER: G = a symbolic machine state (world of cells, pc, locals, stack); one rule an instruction -/
abbrev cls : List vw_C := [(RX0, TX0, 3), (RX1, TX1, 4), (RX2, TX2, 2), (RX3, TX3, 7), (RX4, TX4, 4), (RX5, TX5, 4), (RX6, TX6, 4), (RX7, TX7, 4), (RX8, TX8, 9), (RX9, TX9, 15)]
/-- the links to private members of nest mates -/
def nsl : List (String × Nat × MethodName × String) := [
  ("DriftKin", 9, ⟨"DriftKin$Shore", "<init>", "()V"⟩, "DriftKin"),
  ("DriftKin$Pieces", 33, ⟨"DriftKin", "fill", "([II)V"⟩, "DriftKin"),
  ("DriftKin$Houses", 21, ⟨"DriftKin", "fill", "([II)V"⟩, "DriftKin"),
  ("DriftKin$Shore", 27, ⟨"DriftKin$Sights", "<init>", "()V"⟩, "DriftKin"),
  ("DriftKin", 31, ⟨"DriftKin$Pad", "<init>", "()V"⟩, "DriftKin"),
  ("DriftKin", 38, ⟨"DriftKin$Years", "<init>", "()V"⟩, "DriftKin"),
  ("DriftKin$Years", 11, ⟨"DriftKin$Shore", "<init>", "()V"⟩, "DriftKin"),
  ("DriftKin", 45, ⟨"DriftKin$Planks", "<init>", "()V"⟩, "DriftKin"),
  ("DriftKin", 52, ⟨"DriftKin$Matches", "<init>", "()V"⟩, "DriftKin"),
  ("DriftKin$Pad", 19, ⟨"DriftKin", "at", "([II)I"⟩, "DriftKin"),
  ("DriftKin$Pad", 37, ⟨"DriftKin", "isHouse", "(I)Z"⟩, "DriftKin"),
  ("DriftKin$Pad", 34, ⟨"DriftKin", "isPiece", "(I)Z"⟩, "DriftKin"),
  ("DriftKin$Pieces", 37, ⟨"DriftKin", "copy", "([I[I)V"⟩, "DriftKin"),
  ("DriftKin$Houses", 25, ⟨"DriftKin", "copy", "([I[I)V"⟩, "DriftKin"),
  ("DriftKin$Sights", 25, ⟨"DriftKin", "copy", "([I[I)V"⟩, "DriftKin"),
  ("DriftKin$Years", 44, ⟨"DriftKin", "at", "([II)I"⟩, "DriftKin"),
  ("DriftKin$Shore", 50, ⟨"DriftKin", "at", "([II)I"⟩, "DriftKin"),
  ("DriftKin$Houses", 29, ⟨"DriftKin", "at", "([II)I"⟩, "DriftKin"),
  ("DriftKin$Shore", 54, ⟨"DriftKin", "put", "([III)V"⟩, "DriftKin"),
  ("DriftKin$Pieces", 41, ⟨"DriftKin", "at", "([II)I"⟩, "DriftKin"),
  ("DriftKin$Planks", 43, ⟨"DriftKin", "has", "(II)Z"⟩, "DriftKin"),
  ("DriftKin$Planks", 46, ⟨"DriftKin", "at", "([II)I"⟩, "DriftKin"),
  ("DriftKin$Planks", 50, ⟨"DriftKin", "put", "([III)V"⟩, "DriftKin"),
  ("DriftKin$Pieces", 49, ⟨"DriftKin", "has", "(II)Z"⟩, "DriftKin"),
  ("DriftKin$Matches", 43, ⟨"DriftKin", "has", "(II)Z"⟩, "DriftKin"),
  ("DriftKin$Matches", 35, ⟨"DriftKin", "at", "([II)I"⟩, "DriftKin"),
  ("DriftKin$Matches", 39, ⟨"DriftKin", "fill", "([II)V"⟩, "DriftKin"),
  ("DriftKin$Matches", 58, ⟨"DriftKin", "put", "([III)V"⟩, "DriftKin"),
  ("DriftKin$Sights", 29, ⟨"DriftKin", "put", "([III)V"⟩, "DriftKin"),
  ("DriftKin$Sights", 33, ⟨"DriftKin", "at", "([II)I"⟩, "DriftKin"),
  ("DriftKin$Sights", 37, ⟨"DriftKin", "bitsNear", "(II)I"⟩, "DriftKin")]
def nsOk (U : State) : Prop := ∀ q ∈ nsl, va_Nw (.methodLinkNest q.1 q.2.1 q.2.2.1 q.2.2.2) U
theorem nsOk.same {u U : State} (h : u.vm = U.vm) (hn : nsOk u) : nsOk U := fun q hq => va_Nw.same rfl h (hn q hq)
theorem nsOk.warm {s U : State} (hW : s.WarmedH U.vm) (hn : nsOk s) : nsOk U := fun q hq => va_Nw.warmM hW (hn q hq)
abbrev ty2 (cI cZ : ClassId) : List (ClassId × FieldType) := [(cI, .int), (cZ, .boolean)]
abbrev En : Type := Program × Env × Room × State × MethodId × Array Value × List Frame × Method × Code × (State → Prop) × (Nat → Prop)
/-- the judgement -/
def G (l : Launch) (D : va_G) (E : En) (nL k n : Nat) (Wd : va_W) (pc : Nat) (lv : List (Nat × Value)) (st : List Value) : Prop :=
  match E with
  | (p, e, R, s, m, args, below, meth, c, Q, A) => ∀ (H : Heap) (locs : List Loc) (ls : Array Slot), va_P D cls Wd H → va_D A Wd → va_S A s.heap H locs → lv_has ls nL lv → W p l e R s m args below meth c H locs k n Q (F0 m pc ls st)
/-- what stays through a walk -/
def Ok (l : Launch) (D : va_G) (cI cZ : ClassId) (E : En) (cc : ByteArray) (nL : Nat) (y : MethodName) (Ts : List Cond) (rm : Room) : Prop :=
  match E with
  | (p, e, R, s, m, args, below, meth, c, Q, A) => p.tables.exec = Jvm.exec ∧ c.code = cc ∧ c.maxLocals = nL ∧ s.vm.findClass y.cls = some m.cls ∧ (∀ w ∈ Ts, w.before args s = true) ∧ va_K D cls (ty2 cI cZ) s ∧ nsOk s ∧ (∀ q, s.heap.size ≤ q → A q) ∧ R = rm ∧ meth.name = y.name
/-- a method's start -/
def Pr (D : va_G) (cI cZ : ClassId) (Wd : va_W) (av : List Value) (sz : Nat) : Array Value → State → Prop :=
  va_Pc av (fun U => U.heap.size = sz ∧ va_P D cls Wd U.heap ∧ va_K D cls (ty2 cI cZ) U ∧ va_D (fun _ => True) Wd ∧ nsOk U)
/-- a method's end: its answer, its world -/
def Po (D : va_G) (Wd : va_W) (sz : Nat) (vr : Option Value) (Wd' : (Nat → Nat) → va_W) : Array Value → State → Outcome → State → Prop :=
  fun _ st oc t => (oc = .returned vr ∧ ∃ u : Nat → Nat, va_P D cls (Wd' u) t.heap ∧ va_D (va_A Wd sz) (Wd' u)) ∧ va_F (va_A Wd sz) st t
/-- a contract: from the world Wd, with the arguments av, the method answers vr and leaves the world Wd' -/
def mpC (l : Launch) (y : MethodName) (ws : List Cond) (rm : Room) (D : va_G) (cI cZ : ClassId) (av : List Value) (Wd : va_W) (vr : Option Value) (Wd' : (Nat → Nat) → va_W) (mc ms : Nat) : Prop :=
  ∀ sz : Nat, Met l y ws rm (Pr D cI cZ Wd av sz) (Po D Wd sz vr Wd') mc ms (va_A Wd sz)
def mp (l : Launch) (y : MethodName) (ws : List Cond) (rm : Room) (D : va_G) (cI cZ : ClassId) (av : List Value) (Wd : va_W) (vr : Option Value) (Wd' : va_W) : Prop :=
  mpC l y ws rm D cI cZ av Wd vr (fun _ => Wd') 0 0
theorem Pr_blind {D : va_G} {cI cZ : ClassId} {Wd : va_W} {av : List Value} {sz : Nat} : FrameBlind (Pr D cI cZ Wd av sz) := fun a U g mk q => by
  obtain ⟨q0, q1, q2, q3, q4, q5⟩ := q
  exact ⟨q0, q1, q2, va_K.moved (u := U) (U := U.calling g mk a) (Vm.Alike.refl U.vm) q3, q4, nsOk.same (u := U) (U := U.calling g mk a) rfl q5⟩
/-- the machine's answers to the walk of a method -/
theorem mpC_of {l : Launch} {y : MethodName} {ws ws' : List Cond} {rm : Room} {D : va_G} {cI cZ : ClassId} {av : List Value} {Wd : va_W} {vr : Option Value} {Wd' : (Nat → Nat) → va_W} {mc ms : Nat} (cc : ByteArray) (maxL : Nat) (ret : Option FieldType)
    (hy : plainName y.cls = true) (hw : ws = Cond.code y cc maxL ret :: ws') (hlen : (lg_sl av).length ≤ maxL)
    (body : ∀ E : En, Ok l D cI cZ E cc maxL y ws rm →
      (∀ (u : Nat → Nat) (pc : Nat) (lv : List (Nat × Value)) (v : Int32), vr = some (.int v) → ret = some .int → decode cc pc = .ok (.ireturn, 1) → G l D E maxL mc ms (Wd' u) pc lv [.int v]) →
      (∀ (u : Nat → Nat) (pc : Nat) (lv : List (Nat × Value)) (v : Int32), vr = some (.int v) → ret = some .boolean → v = v &&& 1 → decode cc pc = .ok (.ireturn, 1) → G l D E maxL mc ms (Wd' u) pc lv [.int v]) →
      (∀ (u : Nat → Nat) (pc : Nat) (lv : List (Nat × Value)) (v : Int64), vr = some (.long v) → ret = some .long → decode cc pc = .ok (.lreturn, 1) → G l D E maxL mc ms (Wd' u) pc lv [.long v]) →
      (∀ (u : Nat → Nat) (pc : Nat) (lv : List (Nat × Value)), vr = none → ret = none → decode cc pc = .ok (.return_, 1) → G l D E maxL mc ms (Wd' u) pc lv []) →
      G l D E maxL 0 0 Wd 0 (lv_args 0 av) []) : mpC l y ws rm D cI cZ av Wd vr Wd' mc ms := by
  intro sz
  refine Met.ofW (cc := cc) (maxL := maxL) (ret := ret) hy hw ?_
  intro p e s m args below meth c s₁ B hml hv
  obtain ⟨rfl, hsz, hP, hK, hD0, hN⟩ := hv
  have hx := B.exec
  have hb := B.bytes
  have hr := B.returns
  have hts := atoms_spec (ws := ws) B.pre
  have hown : s.vm.findClass y.cls = some m.cls := findClass_of_methodNamed B.named
  have hlocks := B.notSynchronized
  have hnm : meth.name = y.name := (name_of_methodNamed B.named B.method).1
  subst hsz
  have hl := lv_entry av (n := maxL) hlen
  rw [lg_entry_eq]
  have hD : va_D (va_A Wd s.heap.size) Wd := hD0.self
  refine body (p, e, (headSpec ws rm).room, s, m, av.toArray, below, meth, c, MQ below (Po D Wd s.heap.size vr Wd') av.toArray s mc ms (va_A Wd s.heap.size), va_A Wd s.heap.size) ⟨hx, hb, hml, hown, hts, hK, hN, fun q h => Or.inr h, rfl, hnm⟩ ?_ ?_ ?_ ?_ s.heap [] _ hP hD va_S.rf hl
  · intro u pc lv v e1 e2 hd H locs ls hP hD hS hl
    exact W.iret (v := v) hx hb (hr.trans e2) (fun t ht hW => ⟨⟨by rw [e1], u, by rw [ht]; exact hP, hD⟩, hS.F ht⟩) hS.2.2 hd
  · intro u pc lv v e1 e2 e3 hd H locs ls hP hD hS hl
    exact W.zret (v := v) (ty := .boolean) hx hb (hr.trans e2) (by show Value.int (v &&& 1) = _; rw [← e3]) (fun t ht hW => ⟨⟨by rw [e1], u, by rw [ht]; exact hP, hD⟩, hS.F ht⟩) hS.2.2 hd
  · intro u pc lv v e1 e2 hd H locs ls hP hD hS hl
    exact W.lret (v := v) hx hb (hr.trans e2) (fun t ht hW => ⟨⟨by rw [e1], u, by rw [ht]; exact hP, hD⟩, hS.F ht⟩) hS.2.2 hd
  · intro u pc lv e1 e2 hd H locs ls hP hD hS hl
    exact W.vret hx hb (hr.trans e2) (fun t ht hW => ⟨⟨by rw [e1], u, by rw [ht]; exact hP, hD⟩, hS.F ht⟩) hS.2.2 hd
section MPOF
variable {l : Launch} {y : MethodName} {ws ws' : List Cond} {rm : Room} {D : va_G} {cI cZ : ClassId} {av : List Value} {Wd Wd' : va_W} {lv0 : List (Nat × Value)}
theorem mp_i (cc : ByteArray) (maxL : Nat) (r : Int32) (hy : plainName y.cls = true) (hw : ws = Cond.code y cc maxL (some .int) :: ws') (hlen : (lg_sl av).length ≤ maxL) (hlv : lv_args 0 av = lv0)
    (body : ∀ E : En, Ok l D cI cZ E cc maxL y ws rm → (∀ (pc : Nat) (lv : List (Nat × Value)), decode cc pc = .ok (.ireturn, 1) → G l D E maxL 0 0 Wd' pc lv [.int r]) → G l D E maxL 0 0 Wd 0 lv0 []) : mp l y ws rm D cI cZ av Wd (some (.int r)) Wd' := by
  subst hlv
  exact mpC_of cc maxL (some .int) hy hw hlen (fun E h k1 _ _ _ => body E h (fun pc lv hd => k1 (fun _ => 0) pc lv r rfl rfl hd))
theorem mp_z (cc : ByteArray) (maxL : Nat) (r : Int32) (hy : plainName y.cls = true) (hw : ws = Cond.code y cc maxL (some .boolean) :: ws') (hlen : (lg_sl av).length ≤ maxL) (hlv : lv_args 0 av = lv0)
    (body : ∀ E : En, Ok l D cI cZ E cc maxL y ws rm → (∀ (pc : Nat) (lv : List (Nat × Value)), r = r &&& 1 → decode cc pc = .ok (.ireturn, 1) → G l D E maxL 0 0 Wd' pc lv [.int r]) → G l D E maxL 0 0 Wd 0 lv0 []) : mp l y ws rm D cI cZ av Wd (some (.int r)) Wd' := by
  subst hlv
  exact mpC_of cc maxL (some .boolean) hy hw hlen (fun E h _ k1 _ _ => body E h (fun pc lv he hd => k1 (fun _ => 0) pc lv r rfl rfl he hd))
theorem mp_l (cc : ByteArray) (maxL : Nat) (r : Int64) (hy : plainName y.cls = true) (hw : ws = Cond.code y cc maxL (some .long) :: ws') (hlen : (lg_sl av).length ≤ maxL) (hlv : lv_args 0 av = lv0)
    (body : ∀ E : En, Ok l D cI cZ E cc maxL y ws rm → (∀ (pc : Nat) (lv : List (Nat × Value)), decode cc pc = .ok (.lreturn, 1) → G l D E maxL 0 0 Wd' pc lv [.long r]) → G l D E maxL 0 0 Wd 0 lv0 []) : mp l y ws rm D cI cZ av Wd (some (.long r)) Wd' := by
  subst hlv
  exact mpC_of cc maxL (some .long) hy hw hlen (fun E h _ _ k1 _ => body E h (fun pc lv hd => k1 (fun _ => 0) pc lv r rfl rfl hd))
theorem mp_v (cc : ByteArray) (maxL : Nat) (hy : plainName y.cls = true) (hw : ws = Cond.code y cc maxL none :: ws') (hlen : (lg_sl av).length ≤ maxL) (hlv : lv_args 0 av = lv0)
    (body : ∀ E : En, Ok l D cI cZ E cc maxL y ws rm → (∀ (pc : Nat) (lv : List (Nat × Value)), decode cc pc = .ok (.return_, 1) → G l D E maxL 0 0 Wd' pc lv []) → G l D E maxL 0 0 Wd 0 lv0 []) : mp l y ws rm D cI cZ av Wd none Wd' := by
  subst hlv
  exact mpC_of cc maxL none hy hw hlen (fun E h _ _ _ k1 => body E h (fun pc lv hd => k1 (fun _ => 0) pc lv rfl rfl hd))
end MPOF
-- pure words
abbrev jrem (x y : Int32) : Int32 := x - x / y * y
abbrev jshl (x y : Int32) : Int32 := x <<< (y &&& 31)
abbrev jshr (x y : Int32) : Int32 := x >>> (y &&& 31)
abbrev jushr (x y : Int32) : Int32 := (x.toUInt32 >>> (y.toUInt32 &&& Int32.toUInt32 31)).toInt32
abbrev jlrem (x y : Int64) : Int64 := x - x / y * y
abbrev rd (f : Nat → Int32) (i : Int32) : Int32 := f i.toNatClampNeg
abbrev wr (f : Nat → Int32) (i x : Int32) : Nat → Int32 := upd f i.toNatClampNeg x
def chk {α : Type} (i : Int32) (n : Nat) (K : Option α) : Option α := if (i < 0 ∨ n ≤ i.toNatClampNeg) then none else K
def nzi {α : Type} (y : Int32) (K : Option α) : Option α := if y = 0 then none else K
def nzl {α : Type} (y : Int64) (K : Option α) : Option α := if y = 0 then none else K
def bnd {α β : Type} (x : α) (K : α → Option β) : Option β := K x
def bz (x : Int32) : Option Int32 := if x = x &&& 1 then some x else none
theorem chk_e {α : Type} {i : Int32} {n : Nat} {K : Option α} {z : α} (h : chk i n K = some z) : vp_in i n ∧ K = some z := by
  unfold chk at h
  by_cases c : (i < 0 ∨ n ≤ i.toNatClampNeg)
  · rw [if_pos c] at h; cases h
  · rw [if_neg c] at h; exact ⟨c, h⟩
theorem nzi_e {α : Type} {y : Int32} {K : Option α} {z : α} (h : nzi y K = some z) : ¬ y = 0 ∧ K = some z := by
  unfold nzi at h
  by_cases c : y = 0
  · rw [if_pos c] at h; cases h
  · rw [if_neg c] at h; exact ⟨c, h⟩
theorem nzl_e {α : Type} {y : Int64} {K : Option α} {z : α} (h : nzl y K = some z) : ¬ y = 0 ∧ K = some z := by
  unfold nzl at h
  by_cases c : y = 0
  · rw [if_pos c] at h; cases h
  · rw [if_neg c] at h; exact ⟨c, h⟩
theorem bz_e {x z : Int32} (h : bz x = some z) : x = x &&& 1 ∧ x = z := by
  unfold bz at h
  by_cases c : x = x &&& 1
  · rw [if_pos c] at h; exact ⟨c, Option.some.inj h⟩
  · rw [if_neg c] at h; cases h
/-- the cells at places (not by a map under a binder: the kernel compares such ones in exponential time) -/
def pkc (W : va_W) : List Nat → List (Option (Nat × va_E))
  | [] => []
  | i :: is => W[i]? :: pkc W is
theorem pkc_eq (W : va_W) : ∀ is : List Nat, pkc W is = is.map (fun i => W[i]?)
  | [] => rfl
  | i :: is => by rw [List.map_cons, ← pkc_eq W is]; rfl
def ckp (is isR : List Nat) (N : Nat) : Bool := va_nd is && ((List.range N).all (fun k => is.contains k || isR.contains k) && isR.all (fun k => !is.contains k))
theorem va_D.fst {A : Nat → Prop} {W1 W2 : va_W} (h : va_D A W1) (e : W2.map Prod.fst = W1.map Prod.fst) : va_D A W2 := by
  have key : ∀ (k : Nat) (q : Nat × va_E), W2[k]? = some q → ∃ q0, W1[k]? = some q0 ∧ q0.1 = q.1 := by
    intro k q hk
    have h1 : (W2.map Prod.fst)[k]? = some q.1 := by rw [List.getElem?_map, hk]; rfl
    rw [e, List.getElem?_map] at h1
    cases hq : W1[k]? with
    | none => rw [hq] at h1; cases h1
    | some q0 => rw [hq] at h1; exact ⟨q0, rfl, Option.some.inj h1⟩
  refine ⟨fun i j x y hi hj hxy => ?_, fun k q hk => ?_⟩
  · obtain ⟨x0, a1, a2⟩ := key i x hi
    obtain ⟨y0, b1, b2⟩ := key j y hj
    exact h.1 i j x0 y0 a1 b1 (a2.trans (hxy.trans b2.symm))
  · obtain ⟨q0, a1, a2⟩ := key k q hk
    rw [← a2]
    exact h.2 k q0 a1
/-- the frame rule: behind a call the callee's cells stand changed, the others as before -/
theorem stl_P {A : Nat → Prop} {D : va_G} {W W' Wc W1 : va_W} {H H1 : Heap} (hP : va_P D cls W H) (hD : va_D A W) (is isR : List Nat) {N : Nat} (hn : ckp is isR N = true) (hC : is.map (fun i => W[i]?) = Wc.map some) (h1 : is.map (fun i => W'[i]?) = W1.map some) (h2 : isR.map (fun i => W'[i]?) = isR.map (fun i => W[i]?)) (hN : W'.length = N) (hf : W'.map Prod.fst = W.map Prod.fst)
    (hk : ∀ q : Nat, q < H.size → ¬ va_A Wc H.size q → H1[q]? = H[q]?) (hP1 : va_P D cls W1 H1) : va_P D cls W' H1 ∧ va_D A W' := by
  simp only [ckp, Bool.and_eq_true, List.all_eq_true, List.mem_range, Bool.or_eq_true, Bool.not_eq_true', List.contains_iff_mem] at hn
  obtain ⟨-, hcov, hdis⟩ := hn
  refine ⟨fun k q hq => ?_, hD.fst hf⟩
  have hkN : k < N := by rw [← hN]; exact (List.getElem?_eq_some_iff.mp hq).1
  rcases hcov k hkN with hi | hi
  · obtain ⟨j, hj⟩ := List.getElem?_of_mem hi
    have h3 : (is.map (fun i => W'[i]?))[j]? = some (some q) := by rw [List.getElem?_map, hj]; exact congrArg some hq
    rw [h1, List.getElem?_map] at h3
    cases h4 : W1[j]? with
    | none => rw [h4] at h3; cases h3
    | some c =>
      rw [h4] at h3
      have h5 := Option.some.inj (Option.some.inj h3)
      subst h5
      exact hP1 j c h4
  · have hW : W[k]? = some q := by
      obtain ⟨j, hj⟩ := List.getElem?_of_mem hi
      have h3 : (isR.map (fun i => W'[i]?))[j]? = some (some q) := by rw [List.getElem?_map, hj]; exact congrArg some hq
      rw [h2, List.getElem?_map, hj] at h3
      exact Option.some.inj h3
    have hkis : k ∉ is := by
      have h6 := hdis k hi
      intro h7
      have h8 : is.contains k = true := List.contains_iff_mem.mpr h7
      rw [h8] at h6
      cases h6
    refine (hP k q hW).kept (hk q.1 (hP k q hW).lt (fun h2 => ?_))
    rcases h2 with ⟨j, e, h2⟩ | h2
    · have h3 : (is.map (fun i => W[i]?))[j]? = some (some (q.1, e)) := by rw [hC, List.getElem?_map, h2]; rfl
      rw [List.getElem?_map] at h3
      cases hi2 : is[j]? with
      | none => rw [hi2] at h3; cases h3
      | some i =>
        rw [hi2] at h3
        have h4 := hD.1 k i q (q.1, e) hW (Option.some.inj h3) rfl
        exact hkis (by rw [h4]; exact List.mem_of_getElem? hi2)
    · exact absurd (hP k q hW).lt (by omega)
/-- a word that a callee may take along -/
def Gd (w : Cond) : Prop := (w.onTables && w.keeps) = true ∨ ∃ ty, w = .arrayClass ty
theorem gdl {ws : List Cond} (h : ws.all goodWord = true) : ∀ w ∈ ws, Gd w := fun w hw => good_of_word (List.all_eq_true.mp h w hw)
theorem gda {a b : List Cond} (ha : ∀ w ∈ a, Gd w) (hb : ∀ w ∈ b, Gd w) : ∀ w ∈ a ++ b, Gd w := fun w hw => (List.mem_append.mp hw).elim (ha w) (hb w)
theorem gdn : ∀ w ∈ ([] : List Cond), Gd w := fun _ h => absurd h List.not_mem_nil
theorem gdc {c : Cond} {a : List Cond} (hc : goodWord c = true) (ha : ∀ w ∈ a, Gd w) : ∀ w ∈ c :: a, Gd w := fun w hw => (List.mem_cons.mp hw).elim (fun e => by rw [e]; exact good_of_word hc) (ha w)
theorem u_lay_gd (C : String) (T : u_T) (k : Nat) : Gd (u_lay C T k) := by
  unfold u_lay
  split
  · exact good_of_word rfl
  · exact good_of_word rfl
theorem gdu (C : String) (T : u_T) (N : Nat) : ∀ w ∈ u_ws C T N, Gd w := fun w hw => by
  obtain ⟨k, -, rfl⟩ := List.mem_map.mp hw
  exact u_lay_gd C T k
theorem inl {a b : List Cond} {w : Cond} (h : w ∈ a) : w ∈ a ++ b := List.mem_append_left _ h
theorem inr {a b : List Cond} {w : Cond} (h : w ∈ b) : w ∈ a ++ b := List.mem_append_right _ h
theorem tba {a b t : List Cond} (ha : ∀ w ∈ a, w ∈ t) (hb : ∀ w ∈ b, w ∈ t) : ∀ w ∈ a ++ b, w ∈ t := fun w hw => (List.mem_append.mp hw).elim (ha w) (hb w)
theorem tbc {c : Cond} {a t : List Cond} (hc : c ∈ t) (ha : ∀ w ∈ a, w ∈ t) : ∀ w ∈ c :: a, w ∈ t := fun w hw => (List.mem_cons.mp hw).elim (fun e => by rw [e]; exact hc) (ha w)
theorem tbn {t : List Cond} : ∀ w ∈ ([] : List Cond), w ∈ t := fun _ h => absurd h List.not_mem_nil
abbrev jabs (x : Int32) : Int32 := if 0 ≤ x then x else 0 - x
abbrev jmax (x y : Int32) : Int32 := if x < y then y else x
def up (v : Nat → Nat → Int32) (k : Nat) (f : Nat → Int32) : Nat → Nat → Int32 := fun j => bif Nat.beq j k then f else v j
/-- a shore's state out of its rows -/
def mkS (r0 r1 r2 r3 r4 r5 r6 r7 r8 r9 r10 r11 r12 : Nat → Int32) (c y : Int32) : Nat → Nat → Int32 := fun k => match k with
  | 0 => r0
  | 1 => r1
  | 2 => r2
  | 3 => r3
  | 4 => r4
  | 5 => r5
  | 6 => r6
  | 7 => r7
  | 8 => r8
  | 9 => r9
  | 10 => r10
  | 11 => r11
  | 12 => r12
  | 13 => fun _ => c
  | _ => fun _ => y
/-- a shore with what is in it: its rows (0..6 pieces, 7..9 houses, 10..12 sights), 13 the count of the sights, 14 the year -/
def cShore (cI : ClassId) (a : Nat → Nat) (v : Nat → Nat → Int32) : va_W := [(a 0, .inr (5, [.ref (a 1), .ref (a 9), .ref (a 13), .int (v 14 0)])), (a 1, .inr (3, [.ref (a 2), .ref (a 3), .ref (a 4), .ref (a 5), .ref (a 6), .ref (a 7), .ref (a 8)])), (a 2, .inl (cI, 10, .inl (v 0))), (a 3, .inl (cI, 10, .inl (v 1))), (a 4, .inl (cI, 10, .inl (v 2))), (a 5, .inl (cI, 10, .inl (v 3))), (a 6, .inl (cI, 10, .inl (v 4))), (a 7, .inl (cI, 10, .inl (v 5))), (a 8, .inl (cI, 10, .inl (v 6))), (a 9, .inr (0, [.ref (a 10), .ref (a 11), .ref (a 12)])), (a 10, .inl (cI, 8, .inl (v 7))), (a 11, .inl (cI, 8, .inl (v 8))), (a 12, .inl (cI, 8, .inl (v 9))), (a 13, .inr (6, [.ref (a 14), .ref (a 15), .ref (a 16), .int (v 13 0)])), (a 14, .inl (cI, 8, .inl (v 10))), (a 15, .inl (cI, 8, .inl (v 11))), (a 16, .inl (cI, 8, .inl (v 12)))]
theorem ckp_nd {is isR : List Nat} {N : Nat} (h : ckp is isR N = true) : va_nd is = true := by
  simp only [ckp, Bool.and_eq_true] at h
  exact h.1
section GR
variable {l : Launch} {D : va_G} {cI cZ : ClassId} {E : En} {cc : ByteArray} {nL : Nat} {y : MethodName} {Ts : List Cond} {rm : Room} {k n : Nat} {Wd Wd' : va_W} {pc np : Nat} {lv lv' : List (Nat × Value)} {st : List Value}
/-- other locals listed -/
theorem g_lv (ks : List Nat) (hl : lv_pick lv ks = lv') (kk : G l D E nL k n Wd pc lv' st) : G l D E nL k n Wd pc lv st := by
  obtain ⟨p, e, R, s, m, args, below, meth, c, Q, A⟩ := E
  intro H locs ls hP hD hS h
  exact kk H locs ls hP hD hS (lv_sub h ks hl)
theorem g_pc (e : pc = np) (kk : G l D E nL k n Wd np lv st) : G l D E nL k n Wd pc lv st := by subst e; exact kk
theorem g_wd (e : Wd = Wd') (kk : G l D E nL k n Wd' pc lv st) : G l D E nL k n Wd pc lv st := by subst e; exact kk

theorem g_iconst (h : Ok l D cI cZ E cc nL y Ts rm) {q : Int} {v : Int32} (hv : Int32.ofInt q = v) (hd : decode cc pc = .ok (.iconst q, 1)) (hnp : pc + 1 = np) (kk : G l D E nL k n Wd np lv (.int v :: st)) : G l D E nL k n Wd pc lv st := by
  obtain ⟨p, e, R, s, m, args, below, meth, c, Q, A⟩ := E
  obtain ⟨hx, hb, hml, hown, hts, hK, hN, hA, hRm, hnm⟩ := h
  subst hnp
  intro H locs ls hP hD hS hl
  exact lv_iconst hx hb hd hv (kk H locs ls hP hD hS hl)
theorem g_bipush (h : Ok l D cI cZ E cc nL y Ts rm) {q : Int} {v : Int32} (hv : (Int8.ofInt q).toInt32 = v) (hd : decode cc pc = .ok (.bipush q, 2)) (hnp : pc + 2 = np) (kk : G l D E nL k n Wd np lv (.int v :: st)) : G l D E nL k n Wd pc lv st := by
  obtain ⟨p, e, R, s, m, args, below, meth, c, Q, A⟩ := E
  obtain ⟨hx, hb, hml, hown, hts, hK, hN, hA, hRm, hnm⟩ := h
  subst hnp
  intro H locs ls hP hD hS hl
  exact lv_bipush hx hb hd hv (kk H locs ls hP hD hS hl)
theorem g_sipush (h : Ok l D cI cZ E cc nL y Ts rm) {q : Int} {v : Int32} (hv : (Int16.ofInt q).toInt32 = v) (hd : decode cc pc = .ok (.sipush q, 3)) (hnp : pc + 3 = np) (kk : G l D E nL k n Wd np lv (.int v :: st)) : G l D E nL k n Wd pc lv st := by
  obtain ⟨p, e, R, s, m, args, below, meth, c, Q, A⟩ := E
  obtain ⟨hx, hb, hml, hown, hts, hK, hN, hA, hRm, hnm⟩ := h
  subst hnp
  intro H locs ls hP hD hS hl
  exact lv_sipush hx hb hd hv (kk H locs ls hP hD hS hl)
theorem g_lconst (h : Ok l D cI cZ E cc nL y Ts rm) {q : Fin 2} {v : Int64} (hv : Int64.ofNat (q : Nat) = v) (hd : decode cc pc = .ok (.lconst q, 1)) (hnp : pc + 1 = np) (kk : G l D E nL k n Wd np lv (.long v :: st)) : G l D E nL k n Wd pc lv st := by
  obtain ⟨p, e, R, s, m, args, below, meth, c, Q, A⟩ := E
  obtain ⟨hx, hb, hml, hown, hts, hK, hN, hA, hRm, hnm⟩ := h
  subst hnp
  intro H locs ls hP hD hS hl
  exact lv_lconst hx hb hd hv (kk H locs ls hP hD hS hl)
theorem g_ldc (h : Ok l D cI cZ E cc nL y Ts rm) {ix : Nat} {v : Int32} (hc : Cond.constant y.cls ix v ∈ Ts) (hd : decode cc pc = .ok (.ldc ix, 2)) (hnp : pc + 2 = np) (kk : G l D E nL k n Wd np lv (.int v :: st)) : G l D E nL k n Wd pc lv st := by
  obtain ⟨p, e, R, s, m, args, below, meth, c, Q, A⟩ := E
  obtain ⟨hx, hb, hml, hown, hts, hK, hN, hA, hRm, hnm⟩ := h
  subst hnp
  intro H locs ls hP hD hS hl
  exact lv_ldc hx hb hown (hts _ hc) hd (kk H locs ls hP hD hS hl)
theorem g_ldcw (h : Ok l D cI cZ E cc nL y Ts rm) {ix : Nat} {v : Int32} (hc : Cond.constant y.cls ix v ∈ Ts) (hd : decode cc pc = .ok (.ldc_w ix, 3)) (hnp : pc + 3 = np) (kk : G l D E nL k n Wd np lv (.int v :: st)) : G l D E nL k n Wd pc lv st := by
  obtain ⟨p, e, R, s, m, args, below, meth, c, Q, A⟩ := E
  obtain ⟨hx, hb, hml, hown, hts, hK, hN, hA, hRm, hnm⟩ := h
  subst hnp
  intro H locs ls hP hD hS hl
  exact lv_ldcw hx hb hown (hts _ hc) hd (kk H locs ls hP hD hS hl)
theorem g_ldc2 (h : Ok l D cI cZ E cc nL y Ts rm) {ix : Nat} {v : Int64} (hc : Cond.constantLong y.cls ix v ∈ Ts) (hd : decode cc pc = .ok (.ldc2_w ix, 3)) (hnp : pc + 3 = np) (kk : G l D E nL k n Wd np lv (.long v :: st)) : G l D E nL k n Wd pc lv st := by
  obtain ⟨p, e, R, s, m, args, below, meth, c, Q, A⟩ := E
  obtain ⟨hx, hb, hml, hown, hts, hK, hN, hA, hRm, hnm⟩ := h
  subst hnp
  intro H locs ls hP hD hS hl
  exact lv_ldc2 hx hb hown (hts _ hc) hd (kk H locs ls hP hD hS hl)
theorem g_iload_n (h : Ok l D cI cZ E cc nL y Ts rm) {q : Fin 4} {i : Nat} {x : Int32} (j : Nat) (hi : (q : Nat) = i) (hj : lv[j]? = some (i, .int x)) (hd : decode cc pc = .ok (.iload_n q, 1)) (hnp : pc + 1 = np) (kk : G l D E nL k n Wd np lv (.int x :: st)) : G l D E nL k n Wd pc lv st := by
  obtain ⟨p, e, R, s, m, args, below, meth, c, Q, A⟩ := E
  obtain ⟨hx, hb, hml, hown, hts, hK, hN, hA, hRm, hnm⟩ := h
  subst hnp
  intro H locs ls hP hD hS hl
  exact lv_iload_n hx hb hd hi (lv_at hl j hj) (kk H locs ls hP hD hS hl)
theorem g_iload (h : Ok l D cI cZ E cc nL y Ts rm) {i : Nat} {x : Int32} (j : Nat) (hj : lv[j]? = some (i, .int x)) (hd : decode cc pc = .ok (.iload i, 2)) (hnp : pc + 2 = np) (kk : G l D E nL k n Wd np lv (.int x :: st)) : G l D E nL k n Wd pc lv st := by
  obtain ⟨p, e, R, s, m, args, below, meth, c, Q, A⟩ := E
  obtain ⟨hx, hb, hml, hown, hts, hK, hN, hA, hRm, hnm⟩ := h
  subst hnp
  intro H locs ls hP hD hS hl
  exact lv_iload hx hb hd (lv_at hl j hj) (kk H locs ls hP hD hS hl)
theorem g_lload_n (h : Ok l D cI cZ E cc nL y Ts rm) {q : Fin 4} {i : Nat} {x : Int64} (j : Nat) (hi : (q : Nat) = i) (hj : lv[j]? = some (i, .long x)) (hd : decode cc pc = .ok (.lload_n q, 1)) (hnp : pc + 1 = np) (kk : G l D E nL k n Wd np lv (.long x :: st)) : G l D E nL k n Wd pc lv st := by
  obtain ⟨p, e, R, s, m, args, below, meth, c, Q, A⟩ := E
  obtain ⟨hx, hb, hml, hown, hts, hK, hN, hA, hRm, hnm⟩ := h
  subst hnp
  intro H locs ls hP hD hS hl
  exact lv_lload_n hx hb hd hi (lv_at hl j hj) (kk H locs ls hP hD hS hl)
theorem g_lload (h : Ok l D cI cZ E cc nL y Ts rm) {i : Nat} {x : Int64} (j : Nat) (hj : lv[j]? = some (i, .long x)) (hd : decode cc pc = .ok (.lload i, 2)) (hnp : pc + 2 = np) (kk : G l D E nL k n Wd np lv (.long x :: st)) : G l D E nL k n Wd pc lv st := by
  obtain ⟨p, e, R, s, m, args, below, meth, c, Q, A⟩ := E
  obtain ⟨hx, hb, hml, hown, hts, hK, hN, hA, hRm, hnm⟩ := h
  subst hnp
  intro H locs ls hP hD hS hl
  exact lv_lload hx hb hd (lv_at hl j hj) (kk H locs ls hP hD hS hl)
theorem g_aload_n (h : Ok l D cI cZ E cc nL y Ts rm) {q : Fin 4} {i : Nat} {x : Nat} (j : Nat) (hi : (q : Nat) = i) (hj : lv[j]? = some (i, .ref x)) (hd : decode cc pc = .ok (.aload_n q, 1)) (hnp : pc + 1 = np) (kk : G l D E nL k n Wd np lv (.ref x :: st)) : G l D E nL k n Wd pc lv st := by
  obtain ⟨p, e, R, s, m, args, below, meth, c, Q, A⟩ := E
  obtain ⟨hx, hb, hml, hown, hts, hK, hN, hA, hRm, hnm⟩ := h
  subst hnp
  intro H locs ls hP hD hS hl
  exact lv_aload_n hx hb hd hi (lv_at hl j hj) (kk H locs ls hP hD hS hl)
theorem g_aload (h : Ok l D cI cZ E cc nL y Ts rm) {i : Nat} {x : Nat} (j : Nat) (hj : lv[j]? = some (i, .ref x)) (hd : decode cc pc = .ok (.aload i, 2)) (hnp : pc + 2 = np) (kk : G l D E nL k n Wd np lv (.ref x :: st)) : G l D E nL k n Wd pc lv st := by
  obtain ⟨p, e, R, s, m, args, below, meth, c, Q, A⟩ := E
  obtain ⟨hx, hb, hml, hown, hts, hK, hN, hA, hRm, hnm⟩ := h
  subst hnp
  intro H locs ls hP hD hS hl
  exact lv_aload hx hb hd (lv_at hl j hj) (kk H locs ls hP hD hS hl)
theorem g_istore_n (h : Ok l D cI cZ E cc nL y Ts rm) {q : Fin 4} {i : Nat} {x : Int32} (hi : (q : Nat) = i) (hn : i < nL) (hl2 : (i, Value.int x) :: lv.filter (fun q => !(q.1 == i) && !(q.1 + 1 == i && q.2.category == 2)) = lv') (hd : decode cc pc = .ok (.istore_n q, 1)) (hnp : pc + 1 = np) (kk : G l D E nL k n Wd np lv' st) : G l D E nL k n Wd pc lv (.int x :: st) := by
  obtain ⟨p, e, R, s, m, args, below, meth, c, Q, A⟩ := E
  obtain ⟨hx, hb, hml, hown, hts, hK, hN, hA, hRm, hnm⟩ := h
  subst hnp
  intro H locs ls hP hD hS hl
  exact lv_istore_n hx hb hd hi hl hn hl2 (fun ls hl => kk H locs ls hP hD hS hl)
theorem g_istore (h : Ok l D cI cZ E cc nL y Ts rm) {i : Nat} {x : Int32} (hn : i < nL) (hl2 : (i, Value.int x) :: lv.filter (fun q => !(q.1 == i) && !(q.1 + 1 == i && q.2.category == 2)) = lv') (hd : decode cc pc = .ok (.istore i, 2)) (hnp : pc + 2 = np) (kk : G l D E nL k n Wd np lv' st) : G l D E nL k n Wd pc lv (.int x :: st) := by
  obtain ⟨p, e, R, s, m, args, below, meth, c, Q, A⟩ := E
  obtain ⟨hx, hb, hml, hown, hts, hK, hN, hA, hRm, hnm⟩ := h
  subst hnp
  intro H locs ls hP hD hS hl
  exact lv_istore hx hb hd hl hn hl2 (fun ls hl => kk H locs ls hP hD hS hl)
theorem g_astore_n (h : Ok l D cI cZ E cc nL y Ts rm) {q : Fin 4} {i : Nat} {x : Nat} (hi : (q : Nat) = i) (hn : i < nL) (hl2 : (i, Value.ref x) :: lv.filter (fun q => !(q.1 == i) && !(q.1 + 1 == i && q.2.category == 2)) = lv') (hd : decode cc pc = .ok (.astore_n q, 1)) (hnp : pc + 1 = np) (kk : G l D E nL k n Wd np lv' st) : G l D E nL k n Wd pc lv (.ref x :: st) := by
  obtain ⟨p, e, R, s, m, args, below, meth, c, Q, A⟩ := E
  obtain ⟨hx, hb, hml, hown, hts, hK, hN, hA, hRm, hnm⟩ := h
  subst hnp
  intro H locs ls hP hD hS hl
  exact lv_astore_n hx hb hd hi hl hn hl2 (fun ls hl => kk H locs ls hP hD hS hl)
theorem g_astore (h : Ok l D cI cZ E cc nL y Ts rm) {i : Nat} {x : Nat} (hn : i < nL) (hl2 : (i, Value.ref x) :: lv.filter (fun q => !(q.1 == i) && !(q.1 + 1 == i && q.2.category == 2)) = lv') (hd : decode cc pc = .ok (.astore i, 2)) (hnp : pc + 2 = np) (kk : G l D E nL k n Wd np lv' st) : G l D E nL k n Wd pc lv (.ref x :: st) := by
  obtain ⟨p, e, R, s, m, args, below, meth, c, Q, A⟩ := E
  obtain ⟨hx, hb, hml, hown, hts, hK, hN, hA, hRm, hnm⟩ := h
  subst hnp
  intro H locs ls hP hD hS hl
  exact lv_astore hx hb hd hl hn hl2 (fun ls hl => kk H locs ls hP hD hS hl)
theorem g_lstore_n (h : Ok l D cI cZ E cc nL y Ts rm) {q : Fin 4} {i : Nat} {x : Int64} (hi : (q : Nat) = i) (hn : i + 1 < nL) (hl2 : (i, Value.long x) :: lv.filter (fun q => !(q.1 == i) && (!(q.1 == i + 1) && !(q.1 + 1 == i && q.2.category == 2))) = lv') (hd : decode cc pc = .ok (.lstore_n q, 1)) (hnp : pc + 1 = np) (kk : G l D E nL k n Wd np lv' st) : G l D E nL k n Wd pc lv (.long x :: st) := by
  obtain ⟨p, e, R, s, m, args, below, meth, c, Q, A⟩ := E
  obtain ⟨hx, hb, hml, hown, hts, hK, hN, hA, hRm, hnm⟩ := h
  subst hnp
  intro H locs ls hP hD hS hl
  exact lv_lstore_n hx hb hd hi hl hn hl2 (fun ls hl => kk H locs ls hP hD hS hl)
theorem g_lstore (h : Ok l D cI cZ E cc nL y Ts rm) {i : Nat} {x : Int64} (hn : i + 1 < nL) (hl2 : (i, Value.long x) :: lv.filter (fun q => !(q.1 == i) && (!(q.1 == i + 1) && !(q.1 + 1 == i && q.2.category == 2))) = lv') (hd : decode cc pc = .ok (.lstore i, 2)) (hnp : pc + 2 = np) (kk : G l D E nL k n Wd np lv' st) : G l D E nL k n Wd pc lv (.long x :: st) := by
  obtain ⟨p, e, R, s, m, args, below, meth, c, Q, A⟩ := E
  obtain ⟨hx, hb, hml, hown, hts, hK, hN, hA, hRm, hnm⟩ := h
  subst hnp
  intro H locs ls hP hD hS hl
  exact lv_lstore hx hb hd hl hn hl2 (fun ls hl => kk H locs ls hP hD hS hl)
theorem g_iinc (h : Ok l D cI cZ E cc nL y Ts rm) {i : Nat} {q : Int} {x v : Int32} (j : Nat) (hj : lv[j]? = some (i, .int x)) (hv : x + Int32.ofInt q = v) (hn : i < nL) (hl2 : (i, Value.int v) :: lv.filter (fun q => !(q.1 == i) && !(q.1 + 1 == i && q.2.category == 2)) = lv') (hd : decode cc pc = .ok (.iinc i q, 3)) (hnp : pc + 3 = np) (kk : G l D E nL k n Wd np lv' st) : G l D E nL k n Wd pc lv st := by
  obtain ⟨p, e, R, s, m, args, below, meth, c, Q, A⟩ := E
  obtain ⟨hx, hb, hml, hown, hts, hK, hN, hA, hRm, hnm⟩ := h
  subst hnp
  intro H locs ls hP hD hS hl
  exact lv_iinc hx hb hd hl hj hv hn hl2 (fun ls hl => kk H locs ls hP hD hS hl)
theorem g_iadd (h : Ok l D cI cZ E cc nL y Ts rm) {x z : Int32} (hd : decode cc pc = .ok (.iadd, 1)) (hnp : pc + 1 = np) (kk : G l D E nL k n Wd np lv (.int (x + z) :: st)) : G l D E nL k n Wd pc lv (.int z :: .int x :: st) := by
  obtain ⟨p, e, R, s, m, args, below, meth, c, Q, A⟩ := E
  obtain ⟨hx, hb, hml, hown, hts, hK, hN, hA, hRm, hnm⟩ := h
  subst hnp
  intro H locs ls hP hD hS hl
  exact lv_iadd hx hb hd (kk H locs ls hP hD hS hl)
theorem g_isub (h : Ok l D cI cZ E cc nL y Ts rm) {x z : Int32} (hd : decode cc pc = .ok (.isub, 1)) (hnp : pc + 1 = np) (kk : G l D E nL k n Wd np lv (.int (x - z) :: st)) : G l D E nL k n Wd pc lv (.int z :: .int x :: st) := by
  obtain ⟨p, e, R, s, m, args, below, meth, c, Q, A⟩ := E
  obtain ⟨hx, hb, hml, hown, hts, hK, hN, hA, hRm, hnm⟩ := h
  subst hnp
  intro H locs ls hP hD hS hl
  exact lv_isub hx hb hd (kk H locs ls hP hD hS hl)
theorem g_imul (h : Ok l D cI cZ E cc nL y Ts rm) {x z : Int32} (hd : decode cc pc = .ok (.imul, 1)) (hnp : pc + 1 = np) (kk : G l D E nL k n Wd np lv (.int (x * z) :: st)) : G l D E nL k n Wd pc lv (.int z :: .int x :: st) := by
  obtain ⟨p, e, R, s, m, args, below, meth, c, Q, A⟩ := E
  obtain ⟨hx, hb, hml, hown, hts, hK, hN, hA, hRm, hnm⟩ := h
  subst hnp
  intro H locs ls hP hD hS hl
  exact lv_imul hx hb hd (kk H locs ls hP hD hS hl)
theorem g_iand (h : Ok l D cI cZ E cc nL y Ts rm) {x z : Int32} (hd : decode cc pc = .ok (.iand, 1)) (hnp : pc + 1 = np) (kk : G l D E nL k n Wd np lv (.int (x &&& z) :: st)) : G l D E nL k n Wd pc lv (.int z :: .int x :: st) := by
  obtain ⟨p, e, R, s, m, args, below, meth, c, Q, A⟩ := E
  obtain ⟨hx, hb, hml, hown, hts, hK, hN, hA, hRm, hnm⟩ := h
  subst hnp
  intro H locs ls hP hD hS hl
  exact lv_iand hx hb hd (kk H locs ls hP hD hS hl)
theorem g_ior (h : Ok l D cI cZ E cc nL y Ts rm) {x z : Int32} (hd : decode cc pc = .ok (.ior, 1)) (hnp : pc + 1 = np) (kk : G l D E nL k n Wd np lv (.int (x ||| z) :: st)) : G l D E nL k n Wd pc lv (.int z :: .int x :: st) := by
  obtain ⟨p, e, R, s, m, args, below, meth, c, Q, A⟩ := E
  obtain ⟨hx, hb, hml, hown, hts, hK, hN, hA, hRm, hnm⟩ := h
  subst hnp
  intro H locs ls hP hD hS hl
  exact lv_ior hx hb hd (kk H locs ls hP hD hS hl)
theorem g_ixor (h : Ok l D cI cZ E cc nL y Ts rm) {x z : Int32} (hd : decode cc pc = .ok (.ixor, 1)) (hnp : pc + 1 = np) (kk : G l D E nL k n Wd np lv (.int (x ^^^ z) :: st)) : G l D E nL k n Wd pc lv (.int z :: .int x :: st) := by
  obtain ⟨p, e, R, s, m, args, below, meth, c, Q, A⟩ := E
  obtain ⟨hx, hb, hml, hown, hts, hK, hN, hA, hRm, hnm⟩ := h
  subst hnp
  intro H locs ls hP hD hS hl
  exact lv_ixor hx hb hd (kk H locs ls hP hD hS hl)
theorem g_ishl (h : Ok l D cI cZ E cc nL y Ts rm) {x z : Int32} (hd : decode cc pc = .ok (.ishl, 1)) (hnp : pc + 1 = np) (kk : G l D E nL k n Wd np lv (.int (jshl x z) :: st)) : G l D E nL k n Wd pc lv (.int z :: .int x :: st) := by
  obtain ⟨p, e, R, s, m, args, below, meth, c, Q, A⟩ := E
  obtain ⟨hx, hb, hml, hown, hts, hK, hN, hA, hRm, hnm⟩ := h
  subst hnp
  intro H locs ls hP hD hS hl
  exact lv_ishl hx hb hd (kk H locs ls hP hD hS hl)
theorem g_ishr (h : Ok l D cI cZ E cc nL y Ts rm) {x z : Int32} (hd : decode cc pc = .ok (.ishr, 1)) (hnp : pc + 1 = np) (kk : G l D E nL k n Wd np lv (.int (jshr x z) :: st)) : G l D E nL k n Wd pc lv (.int z :: .int x :: st) := by
  obtain ⟨p, e, R, s, m, args, below, meth, c, Q, A⟩ := E
  obtain ⟨hx, hb, hml, hown, hts, hK, hN, hA, hRm, hnm⟩ := h
  subst hnp
  intro H locs ls hP hD hS hl
  exact lv_ishr hx hb hd (kk H locs ls hP hD hS hl)
theorem g_iushr (h : Ok l D cI cZ E cc nL y Ts rm) {x z : Int32} (hd : decode cc pc = .ok (.iushr, 1)) (hnp : pc + 1 = np) (kk : G l D E nL k n Wd np lv (.int (jushr x z) :: st)) : G l D E nL k n Wd pc lv (.int z :: .int x :: st) := by
  obtain ⟨p, e, R, s, m, args, below, meth, c, Q, A⟩ := E
  obtain ⟨hx, hb, hml, hown, hts, hK, hN, hA, hRm, hnm⟩ := h
  subst hnp
  intro H locs ls hP hD hS hl
  exact lv_iushr hx hb hd rfl (kk H locs ls hP hD hS hl)
theorem g_ineg (h : Ok l D cI cZ E cc nL y Ts rm) {x : Int32} (hd : decode cc pc = .ok (.ineg, 1)) (hnp : pc + 1 = np) (kk : G l D E nL k n Wd np lv (.int (-x) :: st)) : G l D E nL k n Wd pc lv (.int x :: st) := by
  obtain ⟨p, e, R, s, m, args, below, meth, c, Q, A⟩ := E
  obtain ⟨hx, hb, hml, hown, hts, hK, hN, hA, hRm, hnm⟩ := h
  subst hnp
  intro H locs ls hP hD hS hl
  exact lv_ineg hx hb hd (kk H locs ls hP hD hS hl)
theorem g_idiv (h : Ok l D cI cZ E cc nL y Ts rm) {x z : Int32} (hz : ¬ z = 0) (hd : decode cc pc = .ok (.idiv, 1)) (hnp : pc + 1 = np) (kk : G l D E nL k n Wd np lv (.int (x / z) :: st)) : G l D E nL k n Wd pc lv (.int z :: .int x :: st) := by
  obtain ⟨p, e, R, s, m, args, below, meth, c, Q, A⟩ := E
  obtain ⟨hx, hb, hml, hown, hts, hK, hN, hA, hRm, hnm⟩ := h
  subst hnp
  intro H locs ls hP hD hS hl
  exact lv_idiv hx hb hd hz (kk H locs ls hP hD hS hl)
theorem g_irem (h : Ok l D cI cZ E cc nL y Ts rm) {x z : Int32} (hz : ¬ z = 0) (hd : decode cc pc = .ok (.irem, 1)) (hnp : pc + 1 = np) (kk : G l D E nL k n Wd np lv (.int (jrem x z) :: st)) : G l D E nL k n Wd pc lv (.int z :: .int x :: st) := by
  obtain ⟨p, e, R, s, m, args, below, meth, c, Q, A⟩ := E
  obtain ⟨hx, hb, hml, hown, hts, hK, hN, hA, hRm, hnm⟩ := h
  subst hnp
  intro H locs ls hP hD hS hl
  exact lv_irem hx hb hd hz (kk H locs ls hP hD hS hl)
theorem g_ladd (h : Ok l D cI cZ E cc nL y Ts rm) {x z : Int64} (hd : decode cc pc = .ok (.ladd, 1)) (hnp : pc + 1 = np) (kk : G l D E nL k n Wd np lv (.long (x + z) :: st)) : G l D E nL k n Wd pc lv (.long z :: .long x :: st) := by
  obtain ⟨p, e, R, s, m, args, below, meth, c, Q, A⟩ := E
  obtain ⟨hx, hb, hml, hown, hts, hK, hN, hA, hRm, hnm⟩ := h
  subst hnp
  intro H locs ls hP hD hS hl
  exact lv_ladd hx hb hd (kk H locs ls hP hD hS hl)
theorem g_lsub (h : Ok l D cI cZ E cc nL y Ts rm) {x z : Int64} (hd : decode cc pc = .ok (.lsub, 1)) (hnp : pc + 1 = np) (kk : G l D E nL k n Wd np lv (.long (x - z) :: st)) : G l D E nL k n Wd pc lv (.long z :: .long x :: st) := by
  obtain ⟨p, e, R, s, m, args, below, meth, c, Q, A⟩ := E
  obtain ⟨hx, hb, hml, hown, hts, hK, hN, hA, hRm, hnm⟩ := h
  subst hnp
  intro H locs ls hP hD hS hl
  exact lv_lsub hx hb hd (kk H locs ls hP hD hS hl)
theorem g_lmul (h : Ok l D cI cZ E cc nL y Ts rm) {x z : Int64} (hd : decode cc pc = .ok (.lmul, 1)) (hnp : pc + 1 = np) (kk : G l D E nL k n Wd np lv (.long (x * z) :: st)) : G l D E nL k n Wd pc lv (.long z :: .long x :: st) := by
  obtain ⟨p, e, R, s, m, args, below, meth, c, Q, A⟩ := E
  obtain ⟨hx, hb, hml, hown, hts, hK, hN, hA, hRm, hnm⟩ := h
  subst hnp
  intro H locs ls hP hD hS hl
  exact lv_lmul hx hb hd (kk H locs ls hP hD hS hl)
theorem g_ldiv (h : Ok l D cI cZ E cc nL y Ts rm) {x z : Int64} (hz : ¬ z = 0) (hd : decode cc pc = .ok (.ldiv, 1)) (hnp : pc + 1 = np) (kk : G l D E nL k n Wd np lv (.long (x / z) :: st)) : G l D E nL k n Wd pc lv (.long z :: .long x :: st) := by
  obtain ⟨p, e, R, s, m, args, below, meth, c, Q, A⟩ := E
  obtain ⟨hx, hb, hml, hown, hts, hK, hN, hA, hRm, hnm⟩ := h
  subst hnp
  intro H locs ls hP hD hS hl
  exact lv_ldiv hx hb hd hz (kk H locs ls hP hD hS hl)
theorem g_lrem (h : Ok l D cI cZ E cc nL y Ts rm) {x z : Int64} (hz : ¬ z = 0) (hd : decode cc pc = .ok (.lrem, 1)) (hnp : pc + 1 = np) (kk : G l D E nL k n Wd np lv (.long (jlrem x z) :: st)) : G l D E nL k n Wd pc lv (.long z :: .long x :: st) := by
  obtain ⟨p, e, R, s, m, args, below, meth, c, Q, A⟩ := E
  obtain ⟨hx, hb, hml, hown, hts, hK, hN, hA, hRm, hnm⟩ := h
  subst hnp
  intro H locs ls hP hD hS hl
  exact lv_lrem hx hb hd hz (kk H locs ls hP hD hS hl)
theorem g_lcmp (h : Ok l D cI cZ E cc nL y Ts rm) {x z : Int64} (hd : decode cc pc = .ok (.lcmp, 1)) (hnp : pc + 1 = np) (kk : G l D E nL k n Wd np lv (.int (lg_cmp x z) :: st)) : G l D E nL k n Wd pc lv (.long z :: .long x :: st) := by
  obtain ⟨p, e, R, s, m, args, below, meth, c, Q, A⟩ := E
  obtain ⟨hx, hb, hml, hown, hts, hK, hN, hA, hRm, hnm⟩ := h
  subst hnp
  intro H locs ls hP hD hS hl
  exact W.lcmp hx hb hd (kk H locs ls hP hD hS hl)
theorem g_i2l (h : Ok l D cI cZ E cc nL y Ts rm) {x : Int32} (hd : decode cc pc = .ok (.i2l, 1)) (hnp : pc + 1 = np) (kk : G l D E nL k n Wd np lv (.long x.toInt64 :: st)) : G l D E nL k n Wd pc lv (.int x :: st) := by
  obtain ⟨p, e, R, s, m, args, below, meth, c, Q, A⟩ := E
  obtain ⟨hx, hb, hml, hown, hts, hK, hN, hA, hRm, hnm⟩ := h
  subst hnp
  intro H locs ls hP hD hS hl
  exact lv_i2l hx hb hd rfl (kk H locs ls hP hD hS hl)
theorem g_dup (h : Ok l D cI cZ E cc nL y Ts rm) {v : Value} (hv : v.category = 1) (hd : decode cc pc = .ok (.dup, 1)) (hnp : pc + 1 = np) (kk : G l D E nL k n Wd np lv (v :: v :: st)) : G l D E nL k n Wd pc lv (v :: st) := by
  obtain ⟨p, e, R, s, m, args, below, meth, c, Q, A⟩ := E
  obtain ⟨hx, hb, hml, hown, hts, hK, hN, hA, hRm, hnm⟩ := h
  subst hnp
  intro H locs ls hP hD hS hl
  exact lv_dup hx hb hd hv (kk H locs ls hP hD hS hl)
theorem g_pop (h : Ok l D cI cZ E cc nL y Ts rm) {v : Value} (hv : v.category = 1) (hd : decode cc pc = .ok (.pop, 1)) (hnp : pc + 1 = np) (kk : G l D E nL k n Wd np lv st) : G l D E nL k n Wd pc lv (v :: st) := by
  obtain ⟨p, e, R, s, m, args, below, meth, c, Q, A⟩ := E
  obtain ⟨hx, hb, hml, hown, hts, hK, hN, hA, hRm, hnm⟩ := h
  subst hnp
  intro H locs ls hP hD hS hl
  exact lv_pop hx hb hd hv (kk H locs ls hP hD hS hl)
theorem g_dup2 (h : Ok l D cI cZ E cc nL y Ts rm) {v w : Value} (hv : v.category = 1) (hw : w.category = 1) (hd : decode cc pc = .ok (.dup2, 1)) (hnp : pc + 1 = np) (kk : G l D E nL k n Wd np lv (v :: w :: v :: w :: st)) : G l D E nL k n Wd pc lv (v :: w :: st) := by
  obtain ⟨p, e, R, s, m, args, below, meth, c, Q, A⟩ := E
  obtain ⟨hx, hb, hml, hown, hts, hK, hN, hA, hRm, hnm⟩ := h
  subst hnp
  intro H locs ls hP hD hS hl
  exact lv_dup2_11 hx hb hd hv hw (kk H locs ls hP hD hS hl)
theorem g_if_eq {α : Type} {a b : Option α} {z : α} (h : Ok l D cI cZ E cc nL y Ts rm) {x : Int32} {off : Int} {tg : Nat} (hF : (if x = 0 then a else b) = some z) (hd : decode cc pc = .ok (.ifCond .eq off, 3)) (hnp : pc + 3 = np) (ht : (pc : Int) + off = (tg : Int)) (kt : x = 0 → a = some z → G l D E nL k n Wd tg lv st) (kf : ¬ x = 0 → b = some z → G l D E nL k n Wd np lv st) : G l D E nL k n Wd pc lv (.int x :: st) := by
  obtain ⟨p, e, R, s, m, args, below, meth, c, Q, A⟩ := E
  obtain ⟨hx, hb, hml, hown, hts, hK, hN, hA, hRm, hnm⟩ := h
  subst hnp
  intro H locs ls hP hD hS hl
  exact lv_if_eq hx hb hd ht (fun q => kt q (by rw [if_pos q] at hF; exact hF) H locs ls hP hD hS hl) (fun q => kf q (by rw [if_neg q] at hF; exact hF) H locs ls hP hD hS hl)
theorem g_if_ne {α : Type} {a b : Option α} {z : α} (h : Ok l D cI cZ E cc nL y Ts rm) {x : Int32} {off : Int} {tg : Nat} (hF : (if x = 0 then a else b) = some z) (hd : decode cc pc = .ok (.ifCond .ne off, 3)) (hnp : pc + 3 = np) (ht : (pc : Int) + off = (tg : Int)) (kt : ¬ x = 0 → b = some z → G l D E nL k n Wd tg lv st) (kf : x = 0 → a = some z → G l D E nL k n Wd np lv st) : G l D E nL k n Wd pc lv (.int x :: st) := by
  obtain ⟨p, e, R, s, m, args, below, meth, c, Q, A⟩ := E
  obtain ⟨hx, hb, hml, hown, hts, hK, hN, hA, hRm, hnm⟩ := h
  subst hnp
  intro H locs ls hP hD hS hl
  exact lv_if_ne hx hb hd ht (fun q => kt q (by rw [if_neg q] at hF; exact hF) H locs ls hP hD hS hl) (fun q => kf q (by rw [if_pos q] at hF; exact hF) H locs ls hP hD hS hl)
theorem g_if_lt {α : Type} {a b : Option α} {z : α} (h : Ok l D cI cZ E cc nL y Ts rm) {x : Int32} {off : Int} {tg : Nat} (hF : (if x < 0 then a else b) = some z) (hd : decode cc pc = .ok (.ifCond .lt off, 3)) (hnp : pc + 3 = np) (ht : (pc : Int) + off = (tg : Int)) (kt : x < 0 → a = some z → G l D E nL k n Wd tg lv st) (kf : ¬ x < 0 → b = some z → G l D E nL k n Wd np lv st) : G l D E nL k n Wd pc lv (.int x :: st) := by
  obtain ⟨p, e, R, s, m, args, below, meth, c, Q, A⟩ := E
  obtain ⟨hx, hb, hml, hown, hts, hK, hN, hA, hRm, hnm⟩ := h
  subst hnp
  intro H locs ls hP hD hS hl
  exact lv_if_lt hx hb hd ht (fun q => kt q (by rw [if_pos q] at hF; exact hF) H locs ls hP hD hS hl) (fun q => kf q (by rw [if_neg q] at hF; exact hF) H locs ls hP hD hS hl)
theorem g_if_ge {α : Type} {a b : Option α} {z : α} (h : Ok l D cI cZ E cc nL y Ts rm) {x : Int32} {off : Int} {tg : Nat} (hF : (if 0 ≤ x then a else b) = some z) (hd : decode cc pc = .ok (.ifCond .ge off, 3)) (hnp : pc + 3 = np) (ht : (pc : Int) + off = (tg : Int)) (kt : 0 ≤ x → a = some z → G l D E nL k n Wd tg lv st) (kf : ¬ 0 ≤ x → b = some z → G l D E nL k n Wd np lv st) : G l D E nL k n Wd pc lv (.int x :: st) := by
  obtain ⟨p, e, R, s, m, args, below, meth, c, Q, A⟩ := E
  obtain ⟨hx, hb, hml, hown, hts, hK, hN, hA, hRm, hnm⟩ := h
  subst hnp
  intro H locs ls hP hD hS hl
  exact lv_if_ge hx hb hd ht (fun q => kt q (by rw [if_pos q] at hF; exact hF) H locs ls hP hD hS hl) (fun q => kf q (by rw [if_neg q] at hF; exact hF) H locs ls hP hD hS hl)
theorem g_if_gt {α : Type} {a b : Option α} {z : α} (h : Ok l D cI cZ E cc nL y Ts rm) {x : Int32} {off : Int} {tg : Nat} (hF : (if 0 < x then a else b) = some z) (hd : decode cc pc = .ok (.ifCond .gt off, 3)) (hnp : pc + 3 = np) (ht : (pc : Int) + off = (tg : Int)) (kt : 0 < x → a = some z → G l D E nL k n Wd tg lv st) (kf : ¬ 0 < x → b = some z → G l D E nL k n Wd np lv st) : G l D E nL k n Wd pc lv (.int x :: st) := by
  obtain ⟨p, e, R, s, m, args, below, meth, c, Q, A⟩ := E
  obtain ⟨hx, hb, hml, hown, hts, hK, hN, hA, hRm, hnm⟩ := h
  subst hnp
  intro H locs ls hP hD hS hl
  exact lv_if_gt hx hb hd ht (fun q => kt q (by rw [if_pos q] at hF; exact hF) H locs ls hP hD hS hl) (fun q => kf q (by rw [if_neg q] at hF; exact hF) H locs ls hP hD hS hl)
theorem g_if_le {α : Type} {a b : Option α} {z : α} (h : Ok l D cI cZ E cc nL y Ts rm) {x : Int32} {off : Int} {tg : Nat} (hF : (if x ≤ 0 then a else b) = some z) (hd : decode cc pc = .ok (.ifCond .le off, 3)) (hnp : pc + 3 = np) (ht : (pc : Int) + off = (tg : Int)) (kt : x ≤ 0 → a = some z → G l D E nL k n Wd tg lv st) (kf : ¬ x ≤ 0 → b = some z → G l D E nL k n Wd np lv st) : G l D E nL k n Wd pc lv (.int x :: st) := by
  obtain ⟨p, e, R, s, m, args, below, meth, c, Q, A⟩ := E
  obtain ⟨hx, hb, hml, hown, hts, hK, hN, hA, hRm, hnm⟩ := h
  subst hnp
  intro H locs ls hP hD hS hl
  exact lv_if_le hx hb hd ht (fun q => kt q (by rw [if_pos q] at hF; exact hF) H locs ls hP hD hS hl) (fun q => kf q (by rw [if_neg q] at hF; exact hF) H locs ls hP hD hS hl)
theorem g_icmp_eq {α : Type} {a b : Option α} {z : α} (h : Ok l D cI cZ E cc nL y Ts rm) {x w : Int32} {off : Int} {tg : Nat} (hF : (if x = w then a else b) = some z) (hd : decode cc pc = .ok (.if_icmp .eq off, 3)) (hnp : pc + 3 = np) (ht : (pc : Int) + off = (tg : Int)) (kt : x = w → a = some z → G l D E nL k n Wd tg lv st) (kf : ¬ x = w → b = some z → G l D E nL k n Wd np lv st) : G l D E nL k n Wd pc lv (.int w :: .int x :: st) := by
  obtain ⟨p, e, R, s, m, args, below, meth, c, Q, A⟩ := E
  obtain ⟨hx, hb, hml, hown, hts, hK, hN, hA, hRm, hnm⟩ := h
  subst hnp
  intro H locs ls hP hD hS hl
  exact lv_icmp_eq hx hb hd ht (fun q => kt q (by rw [if_pos q] at hF; exact hF) H locs ls hP hD hS hl) (fun q => kf q (by rw [if_neg q] at hF; exact hF) H locs ls hP hD hS hl)
theorem g_icmp_ne {α : Type} {a b : Option α} {z : α} (h : Ok l D cI cZ E cc nL y Ts rm) {x w : Int32} {off : Int} {tg : Nat} (hF : (if x = w then a else b) = some z) (hd : decode cc pc = .ok (.if_icmp .ne off, 3)) (hnp : pc + 3 = np) (ht : (pc : Int) + off = (tg : Int)) (kt : ¬ x = w → b = some z → G l D E nL k n Wd tg lv st) (kf : x = w → a = some z → G l D E nL k n Wd np lv st) : G l D E nL k n Wd pc lv (.int w :: .int x :: st) := by
  obtain ⟨p, e, R, s, m, args, below, meth, c, Q, A⟩ := E
  obtain ⟨hx, hb, hml, hown, hts, hK, hN, hA, hRm, hnm⟩ := h
  subst hnp
  intro H locs ls hP hD hS hl
  exact lv_icmp_ne hx hb hd ht (fun q => kt q (by rw [if_neg q] at hF; exact hF) H locs ls hP hD hS hl) (fun q => kf q (by rw [if_pos q] at hF; exact hF) H locs ls hP hD hS hl)
theorem g_icmp_lt {α : Type} {a b : Option α} {z : α} (h : Ok l D cI cZ E cc nL y Ts rm) {x w : Int32} {off : Int} {tg : Nat} (hF : (if x < w then a else b) = some z) (hd : decode cc pc = .ok (.if_icmp .lt off, 3)) (hnp : pc + 3 = np) (ht : (pc : Int) + off = (tg : Int)) (kt : x < w → a = some z → G l D E nL k n Wd tg lv st) (kf : ¬ x < w → b = some z → G l D E nL k n Wd np lv st) : G l D E nL k n Wd pc lv (.int w :: .int x :: st) := by
  obtain ⟨p, e, R, s, m, args, below, meth, c, Q, A⟩ := E
  obtain ⟨hx, hb, hml, hown, hts, hK, hN, hA, hRm, hnm⟩ := h
  subst hnp
  intro H locs ls hP hD hS hl
  exact lv_icmp_lt hx hb hd ht (fun q => kt q (by rw [if_pos q] at hF; exact hF) H locs ls hP hD hS hl) (fun q => kf q (by rw [if_neg q] at hF; exact hF) H locs ls hP hD hS hl)
theorem g_icmp_ge {α : Type} {a b : Option α} {z : α} (h : Ok l D cI cZ E cc nL y Ts rm) {x w : Int32} {off : Int} {tg : Nat} (hF : (if w ≤ x then a else b) = some z) (hd : decode cc pc = .ok (.if_icmp .ge off, 3)) (hnp : pc + 3 = np) (ht : (pc : Int) + off = (tg : Int)) (kt : w ≤ x → a = some z → G l D E nL k n Wd tg lv st) (kf : ¬ w ≤ x → b = some z → G l D E nL k n Wd np lv st) : G l D E nL k n Wd pc lv (.int w :: .int x :: st) := by
  obtain ⟨p, e, R, s, m, args, below, meth, c, Q, A⟩ := E
  obtain ⟨hx, hb, hml, hown, hts, hK, hN, hA, hRm, hnm⟩ := h
  subst hnp
  intro H locs ls hP hD hS hl
  exact lv_icmp_ge hx hb hd ht (fun q => kt q (by rw [if_pos q] at hF; exact hF) H locs ls hP hD hS hl) (fun q => kf q (by rw [if_neg q] at hF; exact hF) H locs ls hP hD hS hl)
theorem g_icmp_gt {α : Type} {a b : Option α} {z : α} (h : Ok l D cI cZ E cc nL y Ts rm) {x w : Int32} {off : Int} {tg : Nat} (hF : (if w < x then a else b) = some z) (hd : decode cc pc = .ok (.if_icmp .gt off, 3)) (hnp : pc + 3 = np) (ht : (pc : Int) + off = (tg : Int)) (kt : w < x → a = some z → G l D E nL k n Wd tg lv st) (kf : ¬ w < x → b = some z → G l D E nL k n Wd np lv st) : G l D E nL k n Wd pc lv (.int w :: .int x :: st) := by
  obtain ⟨p, e, R, s, m, args, below, meth, c, Q, A⟩ := E
  obtain ⟨hx, hb, hml, hown, hts, hK, hN, hA, hRm, hnm⟩ := h
  subst hnp
  intro H locs ls hP hD hS hl
  exact lv_icmp_gt hx hb hd ht (fun q => kt q (by rw [if_pos q] at hF; exact hF) H locs ls hP hD hS hl) (fun q => kf q (by rw [if_neg q] at hF; exact hF) H locs ls hP hD hS hl)
theorem g_icmp_le {α : Type} {a b : Option α} {z : α} (h : Ok l D cI cZ E cc nL y Ts rm) {x w : Int32} {off : Int} {tg : Nat} (hF : (if x ≤ w then a else b) = some z) (hd : decode cc pc = .ok (.if_icmp .le off, 3)) (hnp : pc + 3 = np) (ht : (pc : Int) + off = (tg : Int)) (kt : x ≤ w → a = some z → G l D E nL k n Wd tg lv st) (kf : ¬ x ≤ w → b = some z → G l D E nL k n Wd np lv st) : G l D E nL k n Wd pc lv (.int w :: .int x :: st) := by
  obtain ⟨p, e, R, s, m, args, below, meth, c, Q, A⟩ := E
  obtain ⟨hx, hb, hml, hown, hts, hK, hN, hA, hRm, hnm⟩ := h
  subst hnp
  intro H locs ls hP hD hS hl
  exact lv_icmp_le hx hb hd ht (fun q => kt q (by rw [if_pos q] at hF; exact hF) H locs ls hP hD hS hl) (fun q => kf q (by rw [if_neg q] at hF; exact hF) H locs ls hP hD hS hl)
theorem g_goto (h : Ok l D cI cZ E cc nL y Ts rm) {off : Int} (hd : decode cc pc = .ok (.goto off, 3)) (ht : (pc : Int) + off = (np : Int)) (kk : G l D E nL k n Wd np lv st) : G l D E nL k n Wd pc lv st := by
  obtain ⟨p, e, R, s, m, args, below, meth, c, Q, A⟩ := E
  obtain ⟨hx, hb, hml, hown, hts, hK, hN, hA, hRm, hnm⟩ := h
  intro H locs ls hP hD hS hl
  exact lv_goto hx hb hd ht (kk H locs ls hP hD hS hl)
theorem g_tsIn (h : Ok l D cI cZ E cc nL y Ts rm) {dflt lo hi : Int} {offs : Array Int} {len : Nat} {x : Int32} {off : Int} (hd : decode cc pc = .ok (.tableswitch dflt lo hi offs, len)) (xi : Int) (hxi : x.toInt = xi) (h1 : ¬ xi < lo) (h2 : ¬ hi < xi) (ho : offs[(xi - lo).toNat]? = some off) (ht : (pc : Int) + off = (np : Int)) (kk : G l D E nL k n Wd np lv st) : G l D E nL k n Wd pc lv (.int x :: st) := by
  obtain ⟨p, e, R, s, m, args, below, meth, c, Q, A⟩ := E
  obtain ⟨hx, hb, hml, hown, hts, hK, hN, hA, hRm, hnm⟩ := h
  subst hxi
  intro H locs ls hP hD hS hl
  exact lv_tableIn hx hb hd h1 h2 ho ht (kk H locs ls hP hD hS hl)
theorem g_tsOut (h : Ok l D cI cZ E cc nL y Ts rm) {dflt lo hi : Int} {offs : Array Int} {len : Nat} {x : Int32} (hd : decode cc pc = .ok (.tableswitch dflt lo hi offs, len)) (h1 : x.toInt < lo ∨ hi < x.toInt) (ht : (pc : Int) + dflt = (np : Int)) (kk : G l D E nL k n Wd np lv st) : G l D E nL k n Wd pc lv (.int x :: st) := by
  obtain ⟨p, e, R, s, m, args, below, meth, c, Q, A⟩ := E
  obtain ⟨hx, hb, hml, hown, hts, hK, hN, hA, hRm, hnm⟩ := h
  intro H locs ls hP hD hS hl
  exact lv_tableOut hx hb hd h1 ht (kk H locs ls hP hD hS hl)
/-- a part of the state gets a name, in the pure residue too -/
theorem g_nm {S β : Type} {K : S → Option β} {z : β} {x : S} (P : S → Prop) (hF : bnd x K = some z) (kk : ∀ v : S, v = x → K v = some z → P v) : P x := kk x rfl hF
/-- the value on top gets a name, in the pure residue too -/
theorem g_top {β : Type} {K : Int32 → Option β} {z : β} {v : Int32} (hF : bnd v K = some z) (kk : ∀ x : Int32, x = v → K x = some z → G l D E nL k n Wd pc lv (.int x :: st)) : G l D E nL k n Wd pc lv (.int v :: st) := kk v rfl hF
theorem g_topl {β : Type} {K : Int64 → Option β} {z : β} {v : Int64} (hF : bnd v K = some z) (kk : ∀ x : Int64, x = v → K x = some z → G l D E nL k n Wd pc lv (.long x :: st)) : G l D E nL k n Wd pc lv (.long v :: st) := kk v rfl hF
theorem g_get (h : Ok l D cI cZ E cc nL y Ts rm) {C : String} {T : u_T} {N ix : Nat} (hin : ∀ w ∈ u_ws C T N, w ∈ Ts) (q0 ci : Nat) {a : Nat} {fs : List Value} (he : Wd[q0]? = some (a, .inr (ci, fs))) (hc : cls[ci]? = some (C, T, N)) (j : Nat) (hj : j < N) (hlk : Cond.fieldLink y.cls ix (T j).1 (T j).2.1 (T j).2.2.1 ∈ Ts) {v : Value} (hv : fs[j]? = some v) (hd : decode cc pc = .ok (.getfield ix, 3)) (hnp : pc + 3 = np) (kk : G l D E nL k n Wd np lv (v :: st)) : G l D E nL k n Wd pc lv (.ref a :: st) := by
  obtain ⟨p, e, R, s, m, args, below, meth, c, Q, A⟩ := E
  obtain ⟨hx, hb, hml, hown, hts, hK, hN, hA, hRm, hnm⟩ := h
  subst hnp
  intro H locs ls hP hD hS hl
  exact va_get hx hb hts hin hown hK hP q0 he hc j hj (hts _ hlk) (fun _ h9 => h9) hv hd (kk H locs ls hP hD hS hl)
theorem g_put (h : Ok l D cI cZ E cc nL y Ts rm) {C : String} {T : u_T} {N ix : Nat} (hin : ∀ w ∈ u_ws C T N, w ∈ Ts) {ty0 : Nat → FieldType} (hty : ∀ k, k < N → parseFieldDescriptor (T k).2.2.1 = some (ty0 k)) (hnm2 : ∀ a, a < N → ∀ b, b < N → a ≠ b → (T a).2.1 ≠ (T b).2.1) (q0 ci : Nat) {a : Nat} {fs : List Value} (he : Wd[q0]? = some (a, .inr (ci, fs))) (hc : cls[ci]? = some (C, T, N)) (j : Nat) (hj : j < N) (hlk : Cond.fieldLink y.cls ix (T j).1 (T j).2.1 (T j).2.2.1 ∈ Ts) (hfin : (T j).2.2.2 = false) {v : Value} (hn : narrow (ty0 j) v = v) (hfit : fits (ty0 j) v = true) (hl2 : j < fs.length) (hw : Wd.set q0 (a, .inr (ci, fs.set j v)) = Wd') (hd : decode cc pc = .ok (.putfield ix, 3)) (hnp : pc + 3 = np) (kk : G l D E nL k n Wd' np lv st) : G l D E nL k n Wd pc lv (v :: .ref a :: st) := by
  obtain ⟨p, e, R, s, m, args, below, meth, c, Q, A⟩ := E
  obtain ⟨hx, hb, hml, hown, hts, hK, hN, hA, hRm, hnm⟩ := h
  subst hnp
  intro H locs ls hP hD hS hl
  subst hw
  exact va_put hx hb hts hin ty0 hty hnm2 hown hK hP hD hS q0 he hc j hj (hts _ hlk) (fun _ h9 => h9) hfin (hty j hj) hn hfit hl2 hd (fun H locs hP hD hS => kk H locs ls hP hD hS hl)
theorem g_putF (h : Ok l D cI cZ E cc nL y Ts rm) {C : String} {T : u_T} {N ix : Nat} (hin : ∀ w ∈ u_ws C T N, w ∈ Ts) {ty0 : Nat → FieldType} (hty : ∀ k, k < N → parseFieldDescriptor (T k).2.2.1 = some (ty0 k)) (hnm2 : ∀ a, a < N → ∀ b, b < N → a ≠ b → (T a).2.1 ≠ (T b).2.1) (q0 ci : Nat) {a : Nat} {fs : List Value} (he : Wd[q0]? = some (a, .inr (ci, fs))) (hc : cls[ci]? = some (C, T, N)) (j : Nat) (hj : j < N) (hlk : Cond.fieldLink y.cls ix (T j).1 (T j).2.1 (T j).2.2.1 ∈ Ts) (hfin : (T j).2.2.2 = true) (hini : y.name = "<init>") (hdc : (T j).1 = y.cls) {v : Value} (hn : narrow (ty0 j) v = v) (hfit : fits (ty0 j) v = true) (hl2 : j < fs.length) (hw : Wd.set q0 (a, .inr (ci, fs.set j v)) = Wd') (hd : decode cc pc = .ok (.putfield ix, 3)) (hnp : pc + 3 = np) (kk : G l D E nL k n Wd' np lv st) : G l D E nL k n Wd pc lv (v :: .ref a :: st) := by
  obtain ⟨p, e, R, s, m, args, below, meth, c, Q, A⟩ := E
  obtain ⟨hx, hb, hml, hown, hts, hK, hN, hA, hRm, hnm⟩ := h
  subst hnp
  intro H locs ls hP hD hS hl
  subst hw
  exact va_putF hx hb hts hin ty0 hty hnm2 hown hK hP hD hS q0 he hc j hj (hts _ hlk) (fun _ h9 => h9) hfin (hnm.trans hini) hdc (hty j hj) hn hfit hl2 hd (fun H locs hP hD hS => kk H locs ls hP hD hS hl)
theorem g_alen (h : Ok l D cI cZ E cc nL y Ts rm) (q0 : Nat) {a N : Nat} {f : Nat → Int32} (ha : Wd[q0]? = some (a, .inl (cI, N, .inl f))) {v : Int32} (hv : Int32.ofNat N = v) (hd : decode cc pc = .ok (.arraylength, 1)) (hnp : pc + 1 = np) (kk : G l D E nL k n Wd np lv (.int v :: st)) : G l D E nL k n Wd pc lv (.ref a :: st) := by
  obtain ⟨p, e, R, s, m, args, below, meth, c, Q, A⟩ := E
  obtain ⟨hx, hb, hml, hown, hts, hK, hN, hA, hRm, hnm⟩ := h
  subst hnp
  intro H locs ls hP hD hS hl
  exact va_alen hx hb hK hP q0 0 ha rfl hv hd (kk H locs ls hP hD hS hl)
theorem g_iald (h : Ok l D cI cZ E cc nL y Ts rm) {α : Type} {K : Option α} {z : α} (q0 : Nat) {a N : Nat} {f : Nat → Int32} {i : Int32} (ha : Wd[q0]? = some (a, .inl (cI, N, .inl f))) (hF : chk i N K = some z) (hd : decode cc pc = .ok (.iaload, 1)) (hnp : pc + 1 = np) (kk : vp_in i N → K = some z → G l D E nL k n Wd np lv (.int (rd f i) :: st)) : G l D E nL k n Wd pc lv (.int i :: .ref a :: st) := by
  obtain ⟨p, e, R, s, m, args, below, meth, c, Q, A⟩ := E
  obtain ⟨hx, hb, hml, hown, hts, hK, hN, hA, hRm, hnm⟩ := h
  subst hnp
  intro H locs ls hP hD hS hl
  exact va_iald hx hb hK hP q0 0 ha rfl (chk_e hF).1 hd (kk (chk_e hF).1 (chk_e hF).2 H locs ls hP hD hS hl)
theorem g_zald (h : Ok l D cI cZ E cc nL y Ts rm) {α : Type} {K : Option α} {z : α} (q0 : Nat) {a N : Nat} {f : Nat → Int32} {i : Int32} (ha : Wd[q0]? = some (a, .inl (cZ, N, .inl f))) (hF : chk i N K = some z) (hd : decode cc pc = .ok (.baload, 1)) (hnp : pc + 1 = np) (kk : vp_in i N → K = some z → G l D E nL k n Wd np lv (.int (rd f i) :: st)) : G l D E nL k n Wd pc lv (.int i :: .ref a :: st) := by
  obtain ⟨p, e, R, s, m, args, below, meth, c, Q, A⟩ := E
  obtain ⟨hx, hb, hml, hown, hts, hK, hN, hA, hRm, hnm⟩ := h
  subst hnp
  intro H locs ls hP hD hS hl
  exact va_zald hx hb hK hP q0 1 ha rfl (chk_e hF).1 hd (kk (chk_e hF).1 (chk_e hF).2 H locs ls hP hD hS hl)
theorem g_iast (h : Ok l D cI cZ E cc nL y Ts rm) {α : Type} {K : Option α} {z : α} (q0 : Nat) {a N : Nat} {f : Nat → Int32} {i x : Int32} (ha : Wd[q0]? = some (a, .inl (cI, N, .inl f))) (hF : chk i N K = some z) (hw : Wd.set q0 (a, .inl (cI, N, .inl (wr f i x))) = Wd') (hd : decode cc pc = .ok (.iastore, 1)) (hnp : pc + 1 = np) (kk : vp_in i N → K = some z → G l D E nL k n Wd' np lv st) : G l D E nL k n Wd pc lv (.int x :: .int i :: .ref a :: st) := by
  obtain ⟨p, e, R, s, m, args, below, meth, c, Q, A⟩ := E
  obtain ⟨hx, hb, hml, hown, hts, hK, hN, hA, hRm, hnm⟩ := h
  subst hnp
  intro H locs ls hP hD hS hl
  subst hw
  exact va_iast hx hb hK hP hD hS q0 0 ha rfl (chk_e hF).1 hd (fun H locs hP hD hS => kk (chk_e hF).1 (chk_e hF).2 H locs ls hP hD hS hl)
theorem g_zast (h : Ok l D cI cZ E cc nL y Ts rm) {α : Type} {K : Option α} {z : α} (q0 : Nat) {a N : Nat} {f : Nat → Int32} {i x : Int32} (ha : Wd[q0]? = some (a, .inl (cZ, N, .inl f))) (hF : chk i N K = some z) (hw : Wd.set q0 (a, .inl (cZ, N, .inl (wr f i (vp_nar .boolean x)))) = Wd') (hd : decode cc pc = .ok (.bastore, 1)) (hnp : pc + 1 = np) (kk : vp_in i N → K = some z → G l D E nL k n Wd' np lv st) : G l D E nL k n Wd pc lv (.int x :: .int i :: .ref a :: st) := by
  obtain ⟨p, e, R, s, m, args, below, meth, c, Q, A⟩ := E
  obtain ⟨hx, hb, hml, hown, hts, hK, hN, hA, hRm, hnm⟩ := h
  subst hnp
  intro H locs ls hP hD hS hl
  subst hw
  exact va_zast hx hb hK hP hD hS q0 1 ha rfl (chk_e hF).1 hd (fun H locs hP hD hS => kk (chk_e hF).1 (chk_e hF).2 H locs ls hP hD hS hl)
/-- the core of every call -/
theorem g_core {p : Program} {e : Env} {R : Room} {s : State} {m : MethodId} {args : Array Value} {below : List Frame} {meth : Method} {c : Code} {Q : State → Prop} {A : Nat → Prop} {H : Heap} {locs : List Loc} {ls : Array Slot} {a0 : Array Value} {Wc Wc' : va_W} {vr : Option Value} {st0 : List Value}
    (hr : va_Run p l e R s m args below meth c H locs k n 0 0 (F0 m pc ls st0) st (Po D Wc H.size vr (fun _ => Wc') a0) (va_A Wc H.size)) (hP : va_P D cls Wd H) (hD : va_D A Wd) (hS : va_S A s.heap H locs) (hA : ∀ q, s.heap.size ≤ q → A q) (is isR : List Nat) {N : Nat} (hn : ckp is isR N = true) (hC : is.map (fun i => Wd[i]?) = Wc.map some) (h1 : is.map (fun i => Wd'[i]?) = Wc'.map some) (h2 : isR.map (fun i => Wd'[i]?) = isR.map (fun i => Wd[i]?)) (hN' : Wd'.length = N) (hf : Wd'.map Prod.fst = Wd.map Prod.fst)
    (kk : ∀ (H1 : Heap) (locs1 : List Loc), va_P D cls Wd' H1 → va_D A Wd' → va_S A s.heap H1 locs1 → W p l e R s m args below meth c H1 locs1 k n Q (F0 m (pc + 3) ls (vr.toList ++ st))) : W p l e R s m args below meth c H locs k n Q (F0 m pc ls st0) := by
  have hFc := va_free (wc := Wc) hD hS hA is hC
  intro T hT X
  obtain ⟨v, st₀, t, T', L, h0, X', hL, e1, e2, ⟨⟨hv, u, hp, -⟩, hz, hk⟩, stp⟩ := hr T hT X
  cases hv
  rw [h0] at hz hk
  obtain ⟨hP1, hD1⟩ := stl_P hP hD is isR hn hC h1 h2 hN' hf hk hp
  obtain ⟨t2, a1, b1⟩ := kk T'.heap (locs ++ L) (by rw [e1]; exact hP1) hD1 ⟨Nat.le_trans hS.1 (by rw [e1]; exact hz), fun q h1 h2 => by rw [e1, hk q (Nat.lt_of_lt_of_le h1 hS.1) (fun z => h2 (hFc q z))]; exact hS.2.1 q h1 h2, fun q hq => by
      rcases List.mem_append.mp hq with h | h
      · exact hS.2.2 q h
      · exact hFc _ (hL q h)⟩ T' rfl X'
  exact ⟨t2, stp t2 a1, b1⟩
theorem g_coreC {p : Program} {e : Env} {R : Room} {s : State} {m : MethodId} {args : Array Value} {below : List Frame} {meth : Method} {c : Code} {Q : State → Prop} {A : Nat → Prop} {H : Heap} {locs : List Loc} {ls : Array Slot} {a0 : Array Value} {Wr Wc : va_W} {Wc' : (Nat → Nat) → va_W} {mc ms : Nat} {st0 : List Value}
    (hr : va_Run p l e R s m args below meth c H locs k n mc ms (F0 m pc ls st0) st (Po D Wc H.size none Wc' a0) (va_A Wc H.size)) (hP : va_P D cls (Wr ++ Wc) H) (hD : va_D A (Wr ++ Wc)) (hS : va_S A s.heap H locs) (hA : ∀ q, s.heap.size ≤ q → A q)
    (kk : ∀ (u : Nat → Nat) (H1 : Heap) (locs1 : List Loc), va_P D cls (Wr ++ Wc' u) H1 → va_D A (Wr ++ Wc' u) → va_S A s.heap H1 locs1 → W p l e R s m args below meth c H1 locs1 (k + mc) (n + ms) Q (F0 m (pc + 3) ls st)) : W p l e R s m args below meth c H locs k n Q (F0 m pc ls st0) := by
  have hisC : (List.range' Wr.length Wc.length).map (fun i => (Wr ++ Wc)[i]?) = Wc.map some := by
    refine List.ext_getElem? (fun j => ?_)
    rw [List.getElem?_map, List.getElem?_map]
    by_cases hj : j < Wc.length
    · rw [List.getElem?_range' hj]
      simp only [Option.map_some, Nat.one_mul]
      rw [List.getElem?_append_right (by omega), Nat.add_sub_cancel_left, List.getElem?_eq_getElem hj]
      rfl
    · rw [List.getElem?_eq_none (by simpa using hj), List.getElem?_eq_none (by simpa using hj)]
      rfl
  have hisR : (List.range Wr.length).map (fun i => (Wr ++ Wc)[i]?) = Wr.map some := by
    refine List.ext_getElem? (fun j => ?_)
    rw [List.getElem?_map, List.getElem?_map]
    by_cases hj : j < Wr.length
    · rw [List.getElem?_range hj]
      simp only [Option.map_some]
      rw [List.getElem?_append_left hj, List.getElem?_eq_getElem hj]
      rfl
    · rw [List.getElem?_eq_none (by simpa using hj), List.getElem?_eq_none (by simpa using hj)]
      rfl
  have hnd : ∀ (N b : Nat), va_nd (List.range' b N) = true := by
    intro N
    induction N with
    | zero => intro b; rfl
    | succ N ih =>
      intro b
      rw [List.range'_succ]
      simp only [va_nd, Bool.and_eq_true, decide_eq_true_eq]
      exact ⟨fun h => by have := (List.mem_range'_1.mp h).1; omega, ih (b + 1)⟩
  have hFc := va_free (wc := Wc) hD hS hA _ hisC
  intro T hT X
  obtain ⟨v, st₀, t, T', L, h0, X', hL, e1, e2, ⟨⟨hv, u, hp, hd1⟩, hz, hk⟩, stp⟩ := hr T hT X
  cases hv
  rw [h0] at hz hk
  obtain ⟨hP1, hD1⟩ := va_join (wr := Wr) (w1 := Wc' u) hP hD (List.range' Wr.length Wc.length) (List.range Wr.length) hisC hisR (by rw [List.range_eq_range']; exact hnd _ _) (fun i hi h2 => by have h3 := List.mem_range.mp hi; have h4 := (List.mem_range'_1.mp h2).1; omega) hk hFc hp hd1
  obtain ⟨t2, a1, b1⟩ := kk u T'.heap (locs ++ L) (by rw [e1]; exact hP1) hD1 ⟨Nat.le_trans hS.1 (by rw [e1]; exact hz), fun q h1 h2 => by rw [e1, hk q (Nat.lt_of_lt_of_le h1 hS.1) (fun z => h2 (hFc q z))]; exact hS.2.1 q h1 h2, fun q hq => by
      rcases List.mem_append.mp hq with h | h
      · exact hS.2.2 q h
      · exact hFc _ (hL q h)⟩ T' rfl X'
  exact ⟨t2, stp t2 a1, b1⟩
/-- what a callee's start asks -/
theorem pr_of {s : State} {A : Nat → Prop} {H : Heap} {Wc : va_W} {av : List Value} {is : List Nat} (hP : va_P D cls Wd H) (hD : va_D A Wd) (hK : va_K D cls (ty2 cI cZ) s) (hN : nsOk s) (hn : va_nd is = true) (hC : is.map (fun i => Wd[i]?) = Wc.map some) : ∀ U : State, U.heap = H → s.WarmedH U.vm → Pr D cI cZ Wc av H.size av.toArray U := by
  intro U hU hW
  have hPc : va_P D cls Wc H := by
    intro j q hq
    have h1 : (is.map (fun i => Wd[i]?))[j]? = some (some q) := by rw [hC, List.getElem?_map, hq]; rfl
    rw [List.getElem?_map] at h1
    cases hi : is[j]? with
    | none => rw [hi] at h1; cases h1
    | some i => rw [hi] at h1; exact hP i q (Option.some.inj h1)
  exact ⟨rfl, by rw [hU], by rw [hU]; exact hPc, va_K.moved hW.alike hK, (hD.sub is hn hC).weaken (fun _ _ _ _ => trivial), hN.warm hW⟩

/-- invokevirtual -/
theorem g_callV (h : Ok l D cI cZ E cc nL y Ts rm) {C : String} {b : Nat} {ix : Nat} {yc : MethodName} {bytes : ByteArray} {maxL na : Nat} {ret : Option FieldType} {wsc wsc' : List Cond} {rmc : Room} {As : List Value} {Wc Wc' : va_W} {vr : Option Value} {lvs : List Value} (hM : mp l yc wsc rmc D cI cZ (.ref b :: As) Wc vr Wc') (hG : GoodIn Ts (wsV y.cls ix C yc wsc)) (hw : wsc = Cond.code yc bytes maxL ret :: wsc') (hrc : rmc.cells = 0 ∧ rmc.slots = 0) (hy : yc.cls = C ∧ yc.cls ≠ "java/lang/invoke/MethodHandle" ∧ yc.cls ≠ "java/lang/invoke/VarHandle" ∧ (parseMethodDescriptor yc.desc).map (fun d => d.parameters.length) = some na) (hR : (Nat.ble (rmc.frames + 1) rm.frames && Nat.ble (8 + (maxL + 11) + rmc.locals) rm.locals) = true)
    (ci q0 : Nat) {q : vw_C} {fs : List Value} (hcl : cls[ci]? = some q) (hqC : q.1 = C) (he : Wd[q0]? = some (b, .inr (ci, fs))) (hlen : As.length = na) (hst : lvs = As.reverse ++ .ref b :: st) (hcat : Nat.ble (st.map fun v => v.category).sum 8 = true) (hkn : k ≤ rm.cells ∧ n ≤ rm.slots)
    (is isR : List Nat) {N : Nat} (hn : ckp is isR N = true) (hC : pkc Wd is = Wc.map some) (h1 : pkc Wd' is = Wc'.map some) (h2 : pkc Wd' isR = pkc Wd isR) (hN' : Wd'.length = N) (hf : Wd'.map Prod.fst = Wd.map Prod.fst) (hd : decode cc pc = .ok (.invokevirtual ix, 3)) (hnp : pc + 3 = np)
    (kk : G l D E nL k n Wd' np lv (vr.toList ++ st)) : G l D E nL k n Wd pc lv lvs := by
  obtain ⟨p, e, R, s, m, args, below, meth, c, Q, A⟩ := E
  obtain ⟨hx, hb, hml, hown, hts, hK, hN, hA, hRm, hnm⟩ := h
  subst hnp
  intro H locs ls hP hD hS hl
  rw [pkc_eq] at hC h1; rw [pkc_eq, pkc_eq] at h2; subst hst; subst hRm; subst hqC
  rw [Bool.and_eq_true] at hR
  exact g_core (va_runV (As := As) (rest := st) ⟨hx, hb, hml, hown, hts⟩ (hM H.size) (cwV na hts hG hw hrc.1 hrc.2 hy ⟨Nat.le_of_ble_eq_true hR.1, Nat.le_of_ble_eq_true hR.2⟩) ⟨Pr_blind, va_recv hK hP hcl he, pr_of hP hD hK hN (ckp_nd hn) hC⟩ rfl hlen hl.1 rfl (lv_room (Nat.le_of_ble_eq_true hcat)) hd hkn) hP hD hS hA is isR hn hC h1 h2 hN' hf (fun H locs hP hD hS => kk H locs ls hP hD hS hl)
/-- invokestatic, the same class or a public one -/
theorem g_callS (h : Ok l D cI cZ E cc nL y Ts rm) {ix : Nat} {yc : MethodName} {bytes : ByteArray} {maxL na : Nat} {ret : Option FieldType} {wsc wsc' : List Cond} {rmc : Room} {As : List Value} {Wc Wc' : va_W} {vr : Option Value} {lvs : List Value} (hM : mp l yc wsc rmc D cI cZ As Wc vr Wc') (hG : GoodIn Ts (va_wsS y.cls ix yc wsc)) (hw : wsc = Cond.code yc bytes maxL ret :: wsc') (hrc : rmc.cells = 0 ∧ rmc.slots = 0) (hy : yc.cls ≠ "java/lang/invoke/MethodHandle" ∧ yc.cls ≠ "java/lang/invoke/VarHandle" ∧ (parseMethodDescriptor yc.desc).map (fun d => d.parameters.length) = some na) (hR : (Nat.ble (rmc.frames + 1) rm.frames && Nat.ble (8 + (maxL + 11) + rmc.locals) rm.locals) = true)
    (hlen : As.length = na) (hst : lvs = As.reverse ++ st) (hcat : Nat.ble (st.map fun v => v.category).sum 8 = true) (hkn : k ≤ rm.cells ∧ n ≤ rm.slots)
    (is isR : List Nat) {N : Nat} (hn : ckp is isR N = true) (hC : pkc Wd is = Wc.map some) (h1 : pkc Wd' is = Wc'.map some) (h2 : pkc Wd' isR = pkc Wd isR) (hN' : Wd'.length = N) (hf : Wd'.map Prod.fst = Wd.map Prod.fst) (hd : decode cc pc = .ok (.invokestatic ix, 3)) (hnp : pc + 3 = np)
    (kk : G l D E nL k n Wd' np lv (vr.toList ++ st)) : G l D E nL k n Wd pc lv lvs := by
  obtain ⟨p, e, R, s, m, args, below, meth, c, Q, A⟩ := E
  obtain ⟨hx, hb, hml, hown, hts, hK, hN, hA, hRm, hnm⟩ := h
  subst hnp
  intro H locs ls hP hD hS hl
  rw [pkc_eq] at hC h1; rw [pkc_eq, pkc_eq] at h2; subst hst; subst hRm
  rw [Bool.and_eq_true] at hR
  exact g_core (va_runS (As := As) (rest := st) ⟨hx, hb, hml, hown, hts⟩ (hM H.size) (va_cwS na hts hG hw hrc.1 hrc.2 hy ⟨Nat.le_of_ble_eq_true hR.1, Nat.le_of_ble_eq_true hR.2⟩) ⟨Pr_blind, pr_of hP hD hK hN (ckp_nd hn) hC⟩ rfl hlen hl.1 rfl (lv_room (Nat.le_of_ble_eq_true hcat)) hd hkn) hP hD hS hA is isR hn hC h1 h2 hN' hf (fun H locs hP hD hS => kk H locs ls hP hD hS hl)
/-- invokestatic, a private one of a nest mate -/
theorem g_callN (h : Ok l D cI cZ E cc nL y Ts rm) {ix : Nat} {yc : MethodName} {bytes : ByteArray} {maxL na : Nat} {ret : Option FieldType} {wsc wsc' : List Cond} {rmc : Room} {As : List Value} {Wc Wc' : va_W} {vr : Option Value} {lvs : List Value} (hM : mp l yc wsc rmc D cI cZ As Wc vr Wc') (hG : GoodIn Ts wsc) (hw : wsc = Cond.code yc bytes maxL ret :: wsc') (hrc : rmc.cells = 0 ∧ rmc.slots = 0) (hnest : (y.cls, ix, yc, yc.cls) ∈ nsl) (hini : Cond.initialized yc.cls ∈ Ts) (hstt : Cond.static yc ∈ Ts) (hy : yc.cls ≠ "java/lang/invoke/MethodHandle" ∧ yc.cls ≠ "java/lang/invoke/VarHandle" ∧ (parseMethodDescriptor yc.desc).map (fun d => d.parameters.length) = some na) (hR : (Nat.ble (rmc.frames + 1) rm.frames && Nat.ble (8 + (maxL + 11) + rmc.locals) rm.locals) = true)
    (hlen : As.length = na) (hst : lvs = As.reverse ++ st) (hcat : Nat.ble (st.map fun v => v.category).sum 8 = true) (hkn : k ≤ rm.cells ∧ n ≤ rm.slots)
    (is isR : List Nat) {N : Nat} (hn : ckp is isR N = true) (hC : pkc Wd is = Wc.map some) (h1 : pkc Wd' is = Wc'.map some) (h2 : pkc Wd' isR = pkc Wd isR) (hN' : Wd'.length = N) (hf : Wd'.map Prod.fst = Wd.map Prod.fst) (hd : decode cc pc = .ok (.invokestatic ix, 3)) (hnp : pc + 3 = np)
    (kk : G l D E nL k n Wd' np lv (vr.toList ++ st)) : G l D E nL k n Wd pc lv lvs := by
  obtain ⟨p, e, R, s, m, args, below, meth, c, Q, A⟩ := E
  obtain ⟨hx, hb, hml, hown, hts, hK, hN, hA, hRm, hnm⟩ := h
  subst hnp
  intro H locs ls hP hD hS hl
  rw [pkc_eq] at hC h1; rw [pkc_eq, pkc_eq] at h2; subst hst; subst hRm
  rw [Bool.and_eq_true] at hR
  exact g_core (va_runSN (As := As) (rest := st) ⟨hx, hb, hml, hown, hts⟩ (hM H.size) ⟨va_cnB na hts hG hw hrc.1 hrc.2 (hN _ hnest) (hts _ hini) hy ⟨Nat.le_of_ble_eq_true hR.1, Nat.le_of_ble_eq_true hR.2⟩, hts _ hstt, trivial⟩ ⟨Pr_blind, pr_of hP hD hK hN (ckp_nd hn) hC⟩ rfl hlen hl.1 rfl (lv_room (Nat.le_of_ble_eq_true hcat)) hd hkn) hP hD hS hA is isR hn hC h1 h2 hN' hf (fun H locs hP hD hS => kk H locs ls hP hD hS hl)
theorem g_mabs (h : Ok l D cI cZ E cc nL y Ts rm) {ix : Nat} {x : Int32} (w1 : Cond.methodLink y.cls ix Lib.Math.abs.name ∈ Ts) (w2 : Cond.static Lib.Math.abs.name ∈ Ts) (w3 : Cond.initialized "java/lang/Math" ∈ Ts) (w4 : Cond.code Lib.Math.abs.name Lib.Math.abs.code 1 (some .int) ∈ Ts) (hfr : Nat.ble 1 rm.frames = true) (hlo : Nat.ble ((st.map fun v => v.category).sum + 13) rm.locals = true) (hkn : k ≤ rm.cells ∧ n ≤ rm.slots) (hd : decode cc pc = .ok (.invokestatic ix, 3)) (hnp : pc + 3 = np) (kk : G l D E nL k n Wd np lv (.int (jabs x) :: st)) : G l D E nL k n Wd pc lv (.int x :: st) := by
  obtain ⟨p, e, R, s, m, args, below, meth, c, Q, A⟩ := E
  obtain ⟨hx, hb, hml, hown, hts, hK, hN, hA, hRm, hnm⟩ := h
  subst hnp
  intro H locs ls hP hD hS hl
  subst hRm
  exact va_mabs hx hb (hml.trans hl.1.symm) hown (hts _ w1) (hts _ w2) (hts _ w3) (hts _ w4) (Nat.le_of_ble_eq_true hfr) (Nat.le_of_ble_eq_true hlo) hkn.1 hkn.2 hd (kk H locs ls hP hD hS hl)
theorem g_mmax (h : Ok l D cI cZ E cc nL y Ts rm) {ix : Nat} {x z : Int32} (w1 : Cond.methodLink y.cls ix Lib.Math.max.name ∈ Ts) (w2 : Cond.static Lib.Math.max.name ∈ Ts) (w3 : Cond.initialized "java/lang/Math" ∈ Ts) (w4 : Cond.code Lib.Math.max.name Lib.Math.max.code 2 (some .int) ∈ Ts) (hfr : Nat.ble 1 rm.frames = true) (hlo : Nat.ble ((st.map fun v => v.category).sum + 13) rm.locals = true) (hkn : k ≤ rm.cells ∧ n ≤ rm.slots) (hd : decode cc pc = .ok (.invokestatic ix, 3)) (hnp : pc + 3 = np) (kk : G l D E nL k n Wd np lv (.int (jmax x z) :: st)) : G l D E nL k n Wd pc lv (.int z :: .int x :: st) := by
  obtain ⟨p, e, R, s, m, args, below, meth, c, Q, A⟩ := E
  obtain ⟨hx, hb, hml, hown, hts, hK, hN, hA, hRm, hnm⟩ := h
  subst hnp
  intro H locs ls hP hD hS hl
  subst hRm
  exact va_mmax hx hb (hml.trans hl.1.symm) hown (hts _ w1) (hts _ w2) (hts _ w3) (hts _ w4) (Nat.le_of_ble_eq_true hfr) (Nat.le_of_ble_eq_true hlo) hkn.1 hkn.2 hd (kk H locs ls hP hD hS hl)
end GR
end
section
theorem dX8_within_0 : decode cX8_within 0 = .ok (.iload_n 0, 1) := by decide +kernel
theorem dX8_within_1 : decode cX8_within 1 = .ok (.iload_n 1, 1) := by decide +kernel
theorem dX8_within_2 : decode cX8_within 2 = .ok (.if_icmp .lt 12, 3) := by decide +kernel
theorem dX8_within_5 : decode cX8_within 5 = .ok (.iload_n 0, 1) := by decide +kernel
theorem dX8_within_6 : decode cX8_within 6 = .ok (.iload_n 2, 1) := by decide +kernel
theorem dX8_within_7 : decode cX8_within 7 = .ok (.if_icmp .gt 7, 3) := by decide +kernel
theorem dX8_within_10 : decode cX8_within 10 = .ok (.iconst 1, 1) := by decide +kernel
theorem dX8_within_11 : decode cX8_within 11 = .ok (.goto 4, 3) := by decide +kernel
theorem dX8_within_14 : decode cX8_within 14 = .ok (.iconst 0, 1) := by decide +kernel
theorem dX8_within_15 : decode cX8_within 15 = .ok (.ireturn, 1) := by decide +kernel
def wtX8_within : List Cond := .code yX8_within cX8_within 3 (some .boolean) :: (([]) ++ [])
theorem imX8_within_own : ∀ w ∈ ([] : List Cond), w ∈ wtX8_within := fun w h => List.mem_cons_of_mem _ (inl h)
theorem gdX8_within : ∀ w ∈ wtX8_within, Gd w := gdc rfl (gda (gdl (by decide +kernel)) gdn)
def fX8_within (x0 : Int32) (x1 : Int32) (x2 : Int32) : Option (Int32) :=
  if x0 < x1 then
    some (0 : Int32)
  else
    if x2 < x0 then
      some (0 : Int32)
    else
      some (1 : Int32)
def wdX8_within (cI cZ : ClassId)    : va_W := []
abbrev rmX8_within : Jvm.Room := { frames := 0, cells := 0, slots := 0, locals := 0 }
theorem hyX8_within : yX8_within.cls ≠ "java/lang/invoke/MethodHandle" ∧ yX8_within.cls ≠ "java/lang/invoke/VarHandle" ∧ (parseMethodDescriptor yX8_within.desc).map (fun d => d.parameters.length) = some 3 := by decide +kernel
set_option maxHeartbeats 4000000 in
set_option maxRecDepth 100000 in
theorem mX8_within (l : Launch) (D : va_G) (cI cZ : ClassId) (x0 : Int32) (x1 : Int32) (x2 : Int32) (z : Int32) (hF : fX8_within x0 x1 x2 = some z) : mp l yX8_within wtX8_within rmX8_within D cI cZ [.int x0, .int x1, .int x2] (wdX8_within cI cZ ) (some (.int z)) (wdX8_within cI cZ ) := by
  refine mp_z (lv0 := [(0, .int x0), (1, .int x1), (2, .int x2)]) cX8_within 3 z (by decide) rfl (Nat.le_of_ble_eq_true rfl) rfl (fun E h hend0 => ?_)
  have hend : ∀ (z' : Int32), some z' = some z → ∀ (pc : Nat) (lv : List (Nat × Value)), z' = z' &&& 1 → decode cX8_within pc = .ok (.ireturn, 1) → G l D E 3 0 0 (wdX8_within cI cZ ) pc lv [.int z'] := fun z' e => by cases e; exact hend0
  clear hend0
  unfold fX8_within at hF
  refine g_iload_n (np := 1) h 0 rfl rfl dX8_within_0 rfl ?_
  refine g_iload_n (np := 2) h 1 rfl rfl dX8_within_1 rfl ?_
  refine g_icmp_lt h hF dX8_within_2 (np := 5) rfl (tg := 14) rfl (fun c1 hF => ?_) (fun c1 hF => ?_)
  · refine g_iconst (np := 15) (v := (0 : Int32)) h (by decide) dX8_within_14 rfl ?_
    exact hend _ hF _ _ (by decide) dX8_within_15
  · refine g_iload_n (np := 6) h 0 rfl rfl dX8_within_5 rfl ?_
    refine g_iload_n (np := 7) h 2 rfl rfl dX8_within_6 rfl ?_
    refine g_icmp_gt h hF dX8_within_7 (np := 10) rfl (tg := 14) rfl (fun c2 hF => ?_) (fun c2 hF => ?_)
    · refine g_iconst (np := 15) (v := (0 : Int32)) h (by decide) dX8_within_14 rfl ?_
      exact hend _ hF _ _ (by decide) dX8_within_15
    · refine g_iconst (np := 11) (v := (1 : Int32)) h (by decide) dX8_within_10 rfl ?_
      refine g_goto h dX8_within_11 (np := 15) rfl ?_
      exact hend _ hF _ _ (by decide) dX8_within_15
theorem dX8_isPiece_0 : decode cX8_isPiece 0 = .ok (.iload_n 0, 1) := by decide +kernel
theorem dX8_isPiece_1 : decode cX8_isPiece 1 = .ok (.iconst 0, 1) := by decide +kernel
theorem dX8_isPiece_2 : decode cX8_isPiece 2 = .ok (.bipush 9, 2) := by decide +kernel
theorem dX8_isPiece_4 : decode cX8_isPiece 4 = .ok (.invokestatic 61, 3) := by decide +kernel
theorem dX8_isPiece_7 : decode cX8_isPiece 7 = .ok (.ireturn, 1) := by decide +kernel
def wtX8_isPiece : List Cond := .code yX8_isPiece cX8_isPiece 1 (some .boolean) :: (([]) ++ ((va_wsS RX8 61 yX8_within wtX8_within) ++ []))
theorem imX8_isPiece_own : ∀ w ∈ ([] : List Cond), w ∈ wtX8_isPiece := fun w h => List.mem_cons_of_mem _ (inl h)
theorem imX8_isPiece_c_X8_within : ∀ w ∈ (va_wsS RX8 61 yX8_within wtX8_within : List Cond), w ∈ wtX8_isPiece := fun w h => List.mem_cons_of_mem _ (inr (inl h))
theorem gdX8_isPiece : ∀ w ∈ wtX8_isPiece, Gd w := gdc rfl (gda (gdl (by decide +kernel)) (gda (gda (gdl (by decide +kernel)) gdX8_within) gdn))
theorem gcX8_isPiece_X8_within : GoodIn wtX8_isPiece (va_wsS RX8 61 yX8_within wtX8_within) := fun w h => ⟨imX8_isPiece_c_X8_within w h, (gda (gdl (by decide +kernel)) gdX8_within) w h⟩
def fX8_isPiece (x0 : Int32) : Option (Int32) :=
  (fX8_within x0 (0 : Int32) (9 : Int32)).bind (fun r1 =>
    (bz r1).bind (fun r2 =>
      some r2))
def wdX8_isPiece (cI cZ : ClassId)    : va_W := []
abbrev rmX8_isPiece : Jvm.Room := { frames := 1, cells := 0, slots := 0, locals := 22 }
theorem hyX8_isPiece : yX8_isPiece.cls ≠ "java/lang/invoke/MethodHandle" ∧ yX8_isPiece.cls ≠ "java/lang/invoke/VarHandle" ∧ (parseMethodDescriptor yX8_isPiece.desc).map (fun d => d.parameters.length) = some 1 := by decide +kernel
set_option maxHeartbeats 4000000 in
set_option maxRecDepth 100000 in
theorem mX8_isPiece (l : Launch) (D : va_G) (cI cZ : ClassId) (x0 : Int32) (z : Int32) (hF : fX8_isPiece x0 = some z) : mp l yX8_isPiece wtX8_isPiece rmX8_isPiece D cI cZ [.int x0] (wdX8_isPiece cI cZ ) (some (.int z)) (wdX8_isPiece cI cZ ) := by
  refine mp_z (lv0 := [(0, .int x0)]) cX8_isPiece 1 z (by decide) rfl (Nat.le_of_ble_eq_true rfl) rfl (fun E h hend0 => ?_)
  have hend : ∀ (z' : Int32), some z' = some z → ∀ (pc : Nat) (lv : List (Nat × Value)), z' = z' &&& 1 → decode cX8_isPiece pc = .ok (.ireturn, 1) → G l D E 1 0 0 (wdX8_isPiece cI cZ ) pc lv [.int z'] := fun z' e => by cases e; exact hend0
  clear hend0
  unfold fX8_isPiece at hF
  refine g_iload_n (np := 1) h 0 rfl rfl dX8_isPiece_0 rfl ?_
  refine g_iconst (np := 2) (v := (0 : Int32)) h (by decide) dX8_isPiece_1 rfl ?_
  refine g_bipush (np := 4) (v := (9 : Int32)) h (by decide) dX8_isPiece_2 rfl ?_
  obtain ⟨r1, hr1, hF⟩ := Option.bind_eq_some_iff.mp hF
  refine g_callS (np := 7) (Wd' := (wdX8_isPiece cI cZ )) (As := [.int x0, .int (0 : Int32), .int (9 : Int32)]) h (mX8_within l D cI cZ x0 (0 : Int32) (9 : Int32) r1 hr1) gcX8_isPiece_X8_within rfl ⟨rfl, rfl⟩ hyX8_within rfl rfl rfl rfl ⟨Nat.zero_le _, Nat.zero_le _⟩ [] [] (N := 0) (by decide +kernel) rfl rfl rfl rfl rfl dX8_isPiece_4 rfl ?_
  obtain ⟨r2, hr2, hF⟩ := Option.bind_eq_some_iff.mp hF
  obtain ⟨hbr2, her2⟩ := bz_e hr2
  subst her2
  exact hend _ hF _ _ hbr2 dX8_isPiece_7
theorem dX8_isHouse_0 : decode cX8_isHouse 0 = .ok (.iload_n 0, 1) := by decide +kernel
theorem dX8_isHouse_1 : decode cX8_isHouse 1 = .ok (.iconst 0, 1) := by decide +kernel
theorem dX8_isHouse_2 : decode cX8_isHouse 2 = .ok (.bipush 7, 2) := by decide +kernel
theorem dX8_isHouse_4 : decode cX8_isHouse 4 = .ok (.invokestatic 61, 3) := by decide +kernel
theorem dX8_isHouse_7 : decode cX8_isHouse 7 = .ok (.ireturn, 1) := by decide +kernel
def wtX8_isHouse : List Cond := .code yX8_isHouse cX8_isHouse 1 (some .boolean) :: (([]) ++ ((va_wsS RX8 61 yX8_within wtX8_within) ++ []))
theorem imX8_isHouse_own : ∀ w ∈ ([] : List Cond), w ∈ wtX8_isHouse := fun w h => List.mem_cons_of_mem _ (inl h)
theorem imX8_isHouse_c_X8_within : ∀ w ∈ (va_wsS RX8 61 yX8_within wtX8_within : List Cond), w ∈ wtX8_isHouse := fun w h => List.mem_cons_of_mem _ (inr (inl h))
theorem gdX8_isHouse : ∀ w ∈ wtX8_isHouse, Gd w := gdc rfl (gda (gdl (by decide +kernel)) (gda (gda (gdl (by decide +kernel)) gdX8_within) gdn))
theorem gcX8_isHouse_X8_within : GoodIn wtX8_isHouse (va_wsS RX8 61 yX8_within wtX8_within) := fun w h => ⟨imX8_isHouse_c_X8_within w h, (gda (gdl (by decide +kernel)) gdX8_within) w h⟩
def fX8_isHouse (x0 : Int32) : Option (Int32) :=
  (fX8_within x0 (0 : Int32) (7 : Int32)).bind (fun r1 =>
    (bz r1).bind (fun r2 =>
      some r2))
def wdX8_isHouse (cI cZ : ClassId)    : va_W := []
abbrev rmX8_isHouse : Jvm.Room := { frames := 1, cells := 0, slots := 0, locals := 22 }
theorem hyX8_isHouse : yX8_isHouse.cls ≠ "java/lang/invoke/MethodHandle" ∧ yX8_isHouse.cls ≠ "java/lang/invoke/VarHandle" ∧ (parseMethodDescriptor yX8_isHouse.desc).map (fun d => d.parameters.length) = some 1 := by decide +kernel
set_option maxHeartbeats 4000000 in
set_option maxRecDepth 100000 in
theorem mX8_isHouse (l : Launch) (D : va_G) (cI cZ : ClassId) (x0 : Int32) (z : Int32) (hF : fX8_isHouse x0 = some z) : mp l yX8_isHouse wtX8_isHouse rmX8_isHouse D cI cZ [.int x0] (wdX8_isHouse cI cZ ) (some (.int z)) (wdX8_isHouse cI cZ ) := by
  refine mp_z (lv0 := [(0, .int x0)]) cX8_isHouse 1 z (by decide) rfl (Nat.le_of_ble_eq_true rfl) rfl (fun E h hend0 => ?_)
  have hend : ∀ (z' : Int32), some z' = some z → ∀ (pc : Nat) (lv : List (Nat × Value)), z' = z' &&& 1 → decode cX8_isHouse pc = .ok (.ireturn, 1) → G l D E 1 0 0 (wdX8_isHouse cI cZ ) pc lv [.int z'] := fun z' e => by cases e; exact hend0
  clear hend0
  unfold fX8_isHouse at hF
  refine g_iload_n (np := 1) h 0 rfl rfl dX8_isHouse_0 rfl ?_
  refine g_iconst (np := 2) (v := (0 : Int32)) h (by decide) dX8_isHouse_1 rfl ?_
  refine g_bipush (np := 4) (v := (7 : Int32)) h (by decide) dX8_isHouse_2 rfl ?_
  obtain ⟨r1, hr1, hF⟩ := Option.bind_eq_some_iff.mp hF
  refine g_callS (np := 7) (Wd' := (wdX8_isHouse cI cZ )) (As := [.int x0, .int (0 : Int32), .int (7 : Int32)]) h (mX8_within l D cI cZ x0 (0 : Int32) (7 : Int32) r1 hr1) gcX8_isHouse_X8_within rfl ⟨rfl, rfl⟩ hyX8_within rfl rfl rfl rfl ⟨Nat.zero_le _, Nat.zero_le _⟩ [] [] (N := 0) (by decide +kernel) rfl rfl rfl rfl rfl dX8_isHouse_4 rfl ?_
  obtain ⟨r2, hr2, hF⟩ := Option.bind_eq_some_iff.mp hF
  obtain ⟨hbr2, her2⟩ := bz_e hr2
  subst her2
  exact hend _ hF _ _ hbr2 dX8_isHouse_7
theorem dX8_has_0 : decode cX8_has 0 = .ok (.iload_n 0, 1) := by decide +kernel
theorem dX8_has_1 : decode cX8_has 1 = .ok (.iload_n 1, 1) := by decide +kernel
theorem dX8_has_2 : decode cX8_has 2 = .ok (.ishr, 1) := by decide +kernel
theorem dX8_has_3 : decode cX8_has 3 = .ok (.iconst 1, 1) := by decide +kernel
theorem dX8_has_4 : decode cX8_has 4 = .ok (.iand, 1) := by decide +kernel
theorem dX8_has_5 : decode cX8_has 5 = .ok (.ifCond .eq 7, 3) := by decide +kernel
theorem dX8_has_8 : decode cX8_has 8 = .ok (.iconst 1, 1) := by decide +kernel
theorem dX8_has_9 : decode cX8_has 9 = .ok (.goto 4, 3) := by decide +kernel
theorem dX8_has_12 : decode cX8_has 12 = .ok (.iconst 0, 1) := by decide +kernel
theorem dX8_has_13 : decode cX8_has 13 = .ok (.ireturn, 1) := by decide +kernel
def wtX8_has : List Cond := .code yX8_has cX8_has 2 (some .boolean) :: (([]) ++ [])
theorem imX8_has_own : ∀ w ∈ ([] : List Cond), w ∈ wtX8_has := fun w h => List.mem_cons_of_mem _ (inl h)
theorem gdX8_has : ∀ w ∈ wtX8_has, Gd w := gdc rfl (gda (gdl (by decide +kernel)) gdn)
def fX8_has (x0 : Int32) (x1 : Int32) : Option (Int32) :=
  if ((jshr x0 x1) &&& (1 : Int32)) = (0 : Int32) then
    some (0 : Int32)
  else
    some (1 : Int32)
def wdX8_has (cI cZ : ClassId)    : va_W := []
abbrev rmX8_has : Jvm.Room := { frames := 0, cells := 0, slots := 0, locals := 0 }
theorem hyX8_has : yX8_has.cls ≠ "java/lang/invoke/MethodHandle" ∧ yX8_has.cls ≠ "java/lang/invoke/VarHandle" ∧ (parseMethodDescriptor yX8_has.desc).map (fun d => d.parameters.length) = some 2 := by decide +kernel
set_option maxHeartbeats 4000000 in
set_option maxRecDepth 100000 in
theorem mX8_has (l : Launch) (D : va_G) (cI cZ : ClassId) (x0 : Int32) (x1 : Int32) (z : Int32) (hF : fX8_has x0 x1 = some z) : mp l yX8_has wtX8_has rmX8_has D cI cZ [.int x0, .int x1] (wdX8_has cI cZ ) (some (.int z)) (wdX8_has cI cZ ) := by
  refine mp_z (lv0 := [(0, .int x0), (1, .int x1)]) cX8_has 2 z (by decide) rfl (Nat.le_of_ble_eq_true rfl) rfl (fun E h hend0 => ?_)
  have hend : ∀ (z' : Int32), some z' = some z → ∀ (pc : Nat) (lv : List (Nat × Value)), z' = z' &&& 1 → decode cX8_has pc = .ok (.ireturn, 1) → G l D E 2 0 0 (wdX8_has cI cZ ) pc lv [.int z'] := fun z' e => by cases e; exact hend0
  clear hend0
  unfold fX8_has at hF
  refine g_iload_n (np := 1) h 0 rfl rfl dX8_has_0 rfl ?_
  refine g_iload_n (np := 2) h 1 rfl rfl dX8_has_1 rfl ?_
  refine g_ishr (np := 3) h dX8_has_2 rfl ?_
  refine g_iconst (np := 4) (v := (1 : Int32)) h (by decide) dX8_has_3 rfl ?_
  refine g_iand (np := 5) h dX8_has_4 rfl ?_
  refine g_if_eq h hF dX8_has_5 (np := 8) rfl (tg := 12) rfl (fun c1 hF => ?_) (fun c1 hF => ?_)
  · refine g_iconst (np := 13) (v := (0 : Int32)) h (by decide) dX8_has_12 rfl ?_
    exact hend _ hF _ _ (by decide) dX8_has_13
  · refine g_iconst (np := 9) (v := (1 : Int32)) h (by decide) dX8_has_8 rfl ?_
    refine g_goto h dX8_has_9 (np := 13) rfl ?_
    exact hend _ hF _ _ (by decide) dX8_has_13
theorem dX8_at_0 : decode cX8_at 0 = .ok (.iload_n 1, 1) := by decide +kernel
theorem dX8_at_1 : decode cX8_at 1 = .ok (.ifCond .lt 15, 3) := by decide +kernel
theorem dX8_at_4 : decode cX8_at 4 = .ok (.iload_n 1, 1) := by decide +kernel
theorem dX8_at_5 : decode cX8_at 5 = .ok (.aload_n 0, 1) := by decide +kernel
theorem dX8_at_6 : decode cX8_at 6 = .ok (.arraylength, 1) := by decide +kernel
theorem dX8_at_7 : decode cX8_at 7 = .ok (.if_icmp .ge 9, 3) := by decide +kernel
theorem dX8_at_10 : decode cX8_at 10 = .ok (.aload_n 0, 1) := by decide +kernel
theorem dX8_at_11 : decode cX8_at 11 = .ok (.iload_n 1, 1) := by decide +kernel
theorem dX8_at_12 : decode cX8_at 12 = .ok (.iaload, 1) := by decide +kernel
theorem dX8_at_13 : decode cX8_at 13 = .ok (.goto 4, 3) := by decide +kernel
theorem dX8_at_16 : decode cX8_at 16 = .ok (.iconst 0, 1) := by decide +kernel
theorem dX8_at_17 : decode cX8_at 17 = .ok (.ireturn, 1) := by decide +kernel
def wtX8_at : List Cond := .code yX8_at cX8_at 2 (some .int) :: (([]) ++ [])
theorem imX8_at_own : ∀ w ∈ ([] : List Cond), w ∈ wtX8_at := fun w h => List.mem_cons_of_mem _ (inl h)
theorem gdX8_at : ∀ w ∈ wtX8_at, Gd w := gdc rfl (gda (gdl (by decide +kernel)) gdn)
def fX8_at (n0 : Nat) (v_row : Nat → Int32) (x1 : Int32) : Option (Int32) :=
  if x1 < (0 : Int32) then
    some (0 : Int32)
  else
    if (Int32.ofNat n0) ≤ x1 then
      some (0 : Int32)
    else
      chk x1 n0 (
        some (rd v_row x1))
def wdX8_at (cI cZ : ClassId) (q0 : Nat) (n0 : Nat) (v_row : Nat → Int32) : va_W := [(q0, .inl (cI, n0, .inl v_row))]
abbrev rmX8_at : Jvm.Room := { frames := 0, cells := 0, slots := 0, locals := 0 }
theorem hyX8_at : yX8_at.cls ≠ "java/lang/invoke/MethodHandle" ∧ yX8_at.cls ≠ "java/lang/invoke/VarHandle" ∧ (parseMethodDescriptor yX8_at.desc).map (fun d => d.parameters.length) = some 2 := by decide +kernel
set_option maxHeartbeats 4000000 in
set_option maxRecDepth 100000 in
theorem mX8_at (l : Launch) (D : va_G) (cI cZ : ClassId) (q0 : Nat) (n0 : Nat) (v_row : Nat → Int32) (x1 : Int32) (z : Int32) (hF : fX8_at n0 v_row x1 = some z) : mp l yX8_at wtX8_at rmX8_at D cI cZ [.ref q0, .int x1] (wdX8_at cI cZ q0 n0 v_row) (some (.int z)) (wdX8_at cI cZ q0 n0 v_row) := by
  refine mp_i (lv0 := [(0, .ref q0), (1, .int x1)]) cX8_at 2 z (by decide) rfl (Nat.le_of_ble_eq_true rfl) rfl (fun E h hend0 => ?_)
  have hend : ∀ (z' : Int32), some z' = some z → ∀ (pc : Nat) (lv : List (Nat × Value)), decode cX8_at pc = .ok (.ireturn, 1) → G l D E 2 0 0 (wdX8_at cI cZ q0 n0 v_row) pc lv [.int z'] := fun z' e => by cases e; exact hend0
  clear hend0
  unfold fX8_at at hF
  refine g_iload_n (np := 1) h 1 rfl rfl dX8_at_0 rfl ?_
  refine g_if_lt h hF dX8_at_1 (np := 4) rfl (tg := 16) rfl (fun c1 hF => ?_) (fun c1 hF => ?_)
  · refine g_iconst (np := 17) (v := (0 : Int32)) h (by decide) dX8_at_16 rfl ?_
    exact hend _ hF _ _ dX8_at_17
  · refine g_iload_n (np := 5) h 1 rfl rfl dX8_at_4 rfl ?_
    refine g_aload_n (np := 6) h 0 rfl rfl dX8_at_5 rfl ?_
    refine g_alen (np := 7) (v := (Int32.ofNat n0)) h 0 rfl rfl dX8_at_6 rfl ?_
    refine g_icmp_ge h hF dX8_at_7 (np := 10) rfl (tg := 16) rfl (fun c2 hF => ?_) (fun c2 hF => ?_)
    · refine g_iconst (np := 17) (v := (0 : Int32)) h (by decide) dX8_at_16 rfl ?_
      exact hend _ hF _ _ dX8_at_17
    · refine g_aload_n (np := 11) h 0 rfl rfl dX8_at_10 rfl ?_
      refine g_iload_n (np := 12) h 1 rfl rfl dX8_at_11 rfl ?_
      refine g_iald (np := 13) h 0 rfl hF dX8_at_12 rfl (fun hi3 hF => ?_)
      refine g_goto h dX8_at_13 (np := 17) rfl ?_
      exact hend _ hF _ _ dX8_at_17
theorem dX8_put_0 : decode cX8_put 0 = .ok (.iload_n 1, 1) := by decide +kernel
theorem dX8_put_1 : decode cX8_put 1 = .ok (.ifCond .lt 13, 3) := by decide +kernel
theorem dX8_put_4 : decode cX8_put 4 = .ok (.iload_n 1, 1) := by decide +kernel
theorem dX8_put_5 : decode cX8_put 5 = .ok (.aload_n 0, 1) := by decide +kernel
theorem dX8_put_6 : decode cX8_put 6 = .ok (.arraylength, 1) := by decide +kernel
theorem dX8_put_7 : decode cX8_put 7 = .ok (.if_icmp .ge 7, 3) := by decide +kernel
theorem dX8_put_10 : decode cX8_put 10 = .ok (.aload_n 0, 1) := by decide +kernel
theorem dX8_put_11 : decode cX8_put 11 = .ok (.iload_n 1, 1) := by decide +kernel
theorem dX8_put_12 : decode cX8_put 12 = .ok (.iload_n 2, 1) := by decide +kernel
theorem dX8_put_13 : decode cX8_put 13 = .ok (.iastore, 1) := by decide +kernel
theorem dX8_put_14 : decode cX8_put 14 = .ok (.return_, 1) := by decide +kernel
def wtX8_put : List Cond := .code yX8_put cX8_put 3 none :: (([]) ++ [])
theorem imX8_put_own : ∀ w ∈ ([] : List Cond), w ∈ wtX8_put := fun w h => List.mem_cons_of_mem _ (inl h)
theorem gdX8_put : ∀ w ∈ wtX8_put, Gd w := gdc rfl (gda (gdl (by decide +kernel)) gdn)
def fX8_put (n0 : Nat) (v_row : Nat → Int32) (x1 : Int32) (x2 : Int32) : Option ((Nat → Int32)) :=
  if x1 < (0 : Int32) then
    some v_row
  else
    if (Int32.ofNat n0) ≤ x1 then
      some v_row
    else
      chk x1 n0 (
        some (wr v_row x1 x2))
def wdX8_put (cI cZ : ClassId) (q0 : Nat) (n0 : Nat) (v_row : Nat → Int32) : va_W := [(q0, .inl (cI, n0, .inl v_row))]
abbrev rmX8_put : Jvm.Room := { frames := 0, cells := 0, slots := 0, locals := 0 }
theorem hyX8_put : yX8_put.cls ≠ "java/lang/invoke/MethodHandle" ∧ yX8_put.cls ≠ "java/lang/invoke/VarHandle" ∧ (parseMethodDescriptor yX8_put.desc).map (fun d => d.parameters.length) = some 3 := by decide +kernel
set_option maxHeartbeats 4000000 in
set_option maxRecDepth 100000 in
theorem mX8_put (l : Launch) (D : va_G) (cI cZ : ClassId) (q0 : Nat) (n0 : Nat) (v_row : Nat → Int32) (x1 : Int32) (x2 : Int32) (z : (Nat → Int32)) (hF : fX8_put n0 v_row x1 x2 = some z) : mp l yX8_put wtX8_put rmX8_put D cI cZ [.ref q0, .int x1, .int x2] (wdX8_put cI cZ q0 n0 v_row) none (wdX8_put cI cZ q0 n0 z) := by
  refine mp_v (lv0 := [(0, .ref q0), (1, .int x1), (2, .int x2)]) cX8_put 3 (by decide) rfl (Nat.le_of_ble_eq_true rfl) rfl (fun E h hend0 => ?_)
  have hend : ∀ (z' : (Nat → Int32)), some z' = some z → ∀ (pc : Nat) (lv : List (Nat × Value)), decode cX8_put pc = .ok (.return_, 1) → G l D E 3 0 0 (wdX8_put cI cZ q0 n0 (z')) pc lv [] := fun z' e => by cases e; exact hend0
  clear hend0
  unfold fX8_put at hF
  refine g_iload_n (np := 1) h 1 rfl rfl dX8_put_0 rfl ?_
  refine g_if_lt h hF dX8_put_1 (np := 4) rfl (tg := 14) rfl (fun c1 hF => ?_) (fun c1 hF => ?_)
  · exact hend _ hF _ _ dX8_put_14
  · refine g_iload_n (np := 5) h 1 rfl rfl dX8_put_4 rfl ?_
    refine g_aload_n (np := 6) h 0 rfl rfl dX8_put_5 rfl ?_
    refine g_alen (np := 7) (v := (Int32.ofNat n0)) h 0 rfl rfl dX8_put_6 rfl ?_
    refine g_icmp_ge h hF dX8_put_7 (np := 10) rfl (tg := 14) rfl (fun c2 hF => ?_) (fun c2 hF => ?_)
    · exact hend _ hF _ _ dX8_put_14
    · refine g_aload_n (np := 11) h 0 rfl rfl dX8_put_10 rfl ?_
      refine g_iload_n (np := 12) h 1 rfl rfl dX8_put_11 rfl ?_
      refine g_iload_n (np := 13) h 2 rfl rfl dX8_put_12 rfl ?_
      refine g_iast (np := 14) (Wd' := (wdX8_put cI cZ q0 n0 (wr v_row x1 x2))) h 0 rfl hF rfl dX8_put_13 rfl (fun hi3 hF => ?_)
      exact hend _ hF _ _ dX8_put_14
theorem dX8_fill_0 : decode cX8_fill 0 = .ok (.iconst 0, 1) := by decide +kernel
theorem dX8_fill_1 : decode cX8_fill 1 = .ok (.istore_n 2, 1) := by decide +kernel
theorem dX8_fill_2 : decode cX8_fill 2 = .ok (.iload_n 2, 1) := by decide +kernel
theorem dX8_fill_3 : decode cX8_fill 3 = .ok (.aload_n 0, 1) := by decide +kernel
theorem dX8_fill_4 : decode cX8_fill 4 = .ok (.arraylength, 1) := by decide +kernel
theorem dX8_fill_5 : decode cX8_fill 5 = .ok (.if_icmp .ge 13, 3) := by decide +kernel
theorem dX8_fill_8 : decode cX8_fill 8 = .ok (.aload_n 0, 1) := by decide +kernel
theorem dX8_fill_9 : decode cX8_fill 9 = .ok (.iload_n 2, 1) := by decide +kernel
theorem dX8_fill_10 : decode cX8_fill 10 = .ok (.iload_n 1, 1) := by decide +kernel
theorem dX8_fill_11 : decode cX8_fill 11 = .ok (.iastore, 1) := by decide +kernel
theorem dX8_fill_12 : decode cX8_fill 12 = .ok (.iinc 2 1, 3) := by decide +kernel
theorem dX8_fill_15 : decode cX8_fill 15 = .ok (.goto (-13), 3) := by decide +kernel
theorem dX8_fill_18 : decode cX8_fill 18 = .ok (.return_, 1) := by decide +kernel
def wtX8_fill : List Cond := .code yX8_fill cX8_fill 3 none :: (([]) ++ [])
theorem imX8_fill_own : ∀ w ∈ ([] : List Cond), w ∈ wtX8_fill := fun w h => List.mem_cons_of_mem _ (inl h)
theorem gdX8_fill : ∀ w ∈ wtX8_fill, Gd w := gdc rfl (gda (gdl (by decide +kernel)) gdn)
def fX8_fill_2 (n0 : Nat) (x1 : Int32) : Nat → (Nat → Int32) → Int32 → Option ((Nat → Int32))
  | 0, _, _ => none
  | n + 1, v_row, x2 =>
    if (Int32.ofNat n0) ≤ x2 then
      some v_row
    else
      chk x2 n0 (
        fX8_fill_2 n0 x1 n (wr v_row x2 x1) (x2 + (1 : Int32)))
def fX8_fill (n0 : Nat) (v_row : Nat → Int32) (x1 : Int32) : Option ((Nat → Int32)) :=
  fX8_fill_2 n0 x1 2000 v_row (0 : Int32)
def wdX8_fill (cI cZ : ClassId) (q0 : Nat) (n0 : Nat) (v_row : Nat → Int32) : va_W := [(q0, .inl (cI, n0, .inl v_row))]
abbrev rmX8_fill : Jvm.Room := { frames := 0, cells := 0, slots := 0, locals := 0 }
theorem hyX8_fill : yX8_fill.cls ≠ "java/lang/invoke/MethodHandle" ∧ yX8_fill.cls ≠ "java/lang/invoke/VarHandle" ∧ (parseMethodDescriptor yX8_fill.desc).map (fun d => d.parameters.length) = some 2 := by decide +kernel
set_option maxHeartbeats 4000000 in
set_option maxRecDepth 100000 in
theorem mX8_fill (l : Launch) (D : va_G) (cI cZ : ClassId) (q0 : Nat) (n0 : Nat) (v_row : Nat → Int32) (x1 : Int32) (z : (Nat → Int32)) (hF : fX8_fill n0 v_row x1 = some z) : mp l yX8_fill wtX8_fill rmX8_fill D cI cZ [.ref q0, .int x1] (wdX8_fill cI cZ q0 n0 v_row) none (wdX8_fill cI cZ q0 n0 z) := by
  refine mp_v (lv0 := [(0, .ref q0), (1, .int x1)]) cX8_fill 3 (by decide) rfl (Nat.le_of_ble_eq_true rfl) rfl (fun E h hend0 => ?_)
  have hend : ∀ (z' : (Nat → Int32)), some z' = some z → ∀ (pc : Nat) (lv : List (Nat × Value)), decode cX8_fill pc = .ok (.return_, 1) → G l D E 3 0 0 (wdX8_fill cI cZ q0 n0 (z')) pc lv [] := fun z' e => by cases e; exact hend0
  clear hend0
  have hL2 : ∀ (n2 : Nat) (v_row : Nat → Int32) (x2 : Int32), fX8_fill_2 n0 x1 n2 v_row x2 = some z → G l D E 3 0 0 (wdX8_fill cI cZ q0 n0 v_row) 2 [(0, .ref q0), (1, .int x1), (2, .int x2)] [] := by
    intro n2
    induction n2 with
    | zero =>
      intro v_row x2 hF
      rw [fX8_fill_2] at hF
      cases hF
    | succ n2 ih2 =>
      intro v_row x2 hF
      rw [fX8_fill_2] at hF
      refine g_iload_n (np := 3) h 2 rfl rfl dX8_fill_2 rfl ?_
      refine g_aload_n (np := 4) h 0 rfl rfl dX8_fill_3 rfl ?_
      refine g_alen (np := 5) (v := (Int32.ofNat n0)) h 0 rfl rfl dX8_fill_4 rfl ?_
      refine g_icmp_ge h hF dX8_fill_5 (np := 8) rfl (tg := 18) rfl (fun c1001 hF => ?_) (fun c1001 hF => ?_)
      · exact hend _ hF _ _ dX8_fill_18
      · refine g_aload_n (np := 9) h 0 rfl rfl dX8_fill_8 rfl ?_
        refine g_iload_n (np := 10) h 2 rfl rfl dX8_fill_9 rfl ?_
        refine g_iload_n (np := 11) h 1 rfl rfl dX8_fill_10 rfl ?_
        refine g_iast (np := 12) (Wd' := (wdX8_fill cI cZ q0 n0 (wr v_row x2 x1))) h 0 rfl hF rfl dX8_fill_11 rfl (fun hi1002 hF => ?_)
        refine g_iinc (np := 15) (v := (x2 + (1 : Int32))) (lv' := [(2, .int (x2 + (1 : Int32))), (0, .ref q0), (1, .int x1)]) h 2 rfl rfl (by decide) rfl dX8_fill_12 rfl ?_
        refine g_goto h dX8_fill_15 (np := 2) rfl ?_
        refine g_lv [1, 2, 0] rfl ?_
        exact ih2 (wr v_row x2 x1) (x2 + (1 : Int32)) hF
  unfold fX8_fill at hF
  refine g_iconst (np := 1) (v := (0 : Int32)) h (by decide) dX8_fill_0 rfl ?_
  refine g_istore_n (np := 2) (lv' := [(2, .int (0 : Int32)), (0, .ref q0), (1, .int x1)]) h rfl (by decide) rfl dX8_fill_1 rfl ?_
  refine g_lv [1, 2, 0] rfl ?_
  exact hL2 _ v_row (0 : Int32) hF
theorem dX8_copy_0 : decode cX8_copy 0 = .ok (.iconst 0, 1) := by decide +kernel
theorem dX8_copy_1 : decode cX8_copy 1 = .ok (.istore_n 2, 1) := by decide +kernel
theorem dX8_copy_2 : decode cX8_copy 2 = .ok (.iload_n 2, 1) := by decide +kernel
theorem dX8_copy_3 : decode cX8_copy 3 = .ok (.aload_n 1, 1) := by decide +kernel
theorem dX8_copy_4 : decode cX8_copy 4 = .ok (.arraylength, 1) := by decide +kernel
theorem dX8_copy_5 : decode cX8_copy 5 = .ok (.if_icmp .ge 21, 3) := by decide +kernel
theorem dX8_copy_8 : decode cX8_copy 8 = .ok (.iload_n 2, 1) := by decide +kernel
theorem dX8_copy_9 : decode cX8_copy 9 = .ok (.aload_n 0, 1) := by decide +kernel
theorem dX8_copy_10 : decode cX8_copy 10 = .ok (.arraylength, 1) := by decide +kernel
theorem dX8_copy_11 : decode cX8_copy 11 = .ok (.if_icmp .ge 15, 3) := by decide +kernel
theorem dX8_copy_14 : decode cX8_copy 14 = .ok (.aload_n 1, 1) := by decide +kernel
theorem dX8_copy_15 : decode cX8_copy 15 = .ok (.iload_n 2, 1) := by decide +kernel
theorem dX8_copy_16 : decode cX8_copy 16 = .ok (.aload_n 0, 1) := by decide +kernel
theorem dX8_copy_17 : decode cX8_copy 17 = .ok (.iload_n 2, 1) := by decide +kernel
theorem dX8_copy_18 : decode cX8_copy 18 = .ok (.iaload, 1) := by decide +kernel
theorem dX8_copy_19 : decode cX8_copy 19 = .ok (.iastore, 1) := by decide +kernel
theorem dX8_copy_20 : decode cX8_copy 20 = .ok (.iinc 2 1, 3) := by decide +kernel
theorem dX8_copy_23 : decode cX8_copy 23 = .ok (.goto (-21), 3) := by decide +kernel
theorem dX8_copy_26 : decode cX8_copy 26 = .ok (.return_, 1) := by decide +kernel
def wtX8_copy : List Cond := .code yX8_copy cX8_copy 3 none :: (([]) ++ [])
theorem imX8_copy_own : ∀ w ∈ ([] : List Cond), w ∈ wtX8_copy := fun w h => List.mem_cons_of_mem _ (inl h)
theorem gdX8_copy : ∀ w ∈ wtX8_copy, Gd w := gdc rfl (gda (gdl (by decide +kernel)) gdn)
def fX8_copy_2 (n0 : Nat) (n1 : Nat) (v_row : Nat → Int32) : Nat → (Nat → Int32) → Int32 → Option ((Nat → Int32))
  | 0, _, _ => none
  | n + 1, v_row1, x2 =>
    if (Int32.ofNat n1) ≤ x2 then
      some v_row1
    else
      if (Int32.ofNat n0) ≤ x2 then
        some v_row1
      else
        chk x2 n0 (
          chk x2 n1 (
            fX8_copy_2 n0 n1 v_row n (wr v_row1 x2 (rd v_row x2)) (x2 + (1 : Int32))))
def fX8_copy (n0 : Nat) (n1 : Nat) (v_row : Nat → Int32) (v_row1 : Nat → Int32) : Option ((Nat → Int32)) :=
  fX8_copy_2 n0 n1 v_row 2000 v_row1 (0 : Int32)
def wdX8_copy (cI cZ : ClassId) (q0 : Nat) (q1 : Nat) (n0 : Nat) (n1 : Nat) (v_row : Nat → Int32) (v_row1 : Nat → Int32) : va_W := [(q0, .inl (cI, n0, .inl v_row)), (q1, .inl (cI, n1, .inl v_row1))]
abbrev rmX8_copy : Jvm.Room := { frames := 0, cells := 0, slots := 0, locals := 0 }
theorem hyX8_copy : yX8_copy.cls ≠ "java/lang/invoke/MethodHandle" ∧ yX8_copy.cls ≠ "java/lang/invoke/VarHandle" ∧ (parseMethodDescriptor yX8_copy.desc).map (fun d => d.parameters.length) = some 2 := by decide +kernel
set_option maxHeartbeats 4000000 in
set_option maxRecDepth 100000 in
theorem mX8_copy (l : Launch) (D : va_G) (cI cZ : ClassId) (q0 : Nat) (q1 : Nat) (n0 : Nat) (n1 : Nat) (v_row : Nat → Int32) (v_row1 : Nat → Int32) (z : (Nat → Int32)) (hF : fX8_copy n0 n1 v_row v_row1 = some z) : mp l yX8_copy wtX8_copy rmX8_copy D cI cZ [.ref q0, .ref q1] (wdX8_copy cI cZ q0 q1 n0 n1 v_row v_row1) none (wdX8_copy cI cZ q0 q1 n0 n1 v_row z) := by
  refine mp_v (lv0 := [(0, .ref q0), (1, .ref q1)]) cX8_copy 3 (by decide) rfl (Nat.le_of_ble_eq_true rfl) rfl (fun E h hend0 => ?_)
  have hend : ∀ (z' : (Nat → Int32)), some z' = some z → ∀ (pc : Nat) (lv : List (Nat × Value)), decode cX8_copy pc = .ok (.return_, 1) → G l D E 3 0 0 (wdX8_copy cI cZ q0 q1 n0 n1 v_row (z')) pc lv [] := fun z' e => by cases e; exact hend0
  clear hend0
  have hL2 : ∀ (n2 : Nat) (v_row1 : Nat → Int32) (x2 : Int32), fX8_copy_2 n0 n1 v_row n2 v_row1 x2 = some z → G l D E 3 0 0 (wdX8_copy cI cZ q0 q1 n0 n1 v_row v_row1) 2 [(0, .ref q0), (1, .ref q1), (2, .int x2)] [] := by
    intro n2
    induction n2 with
    | zero =>
      intro v_row1 x2 hF
      rw [fX8_copy_2] at hF
      cases hF
    | succ n2 ih2 =>
      intro v_row1 x2 hF
      rw [fX8_copy_2] at hF
      refine g_iload_n (np := 3) h 2 rfl rfl dX8_copy_2 rfl ?_
      refine g_aload_n (np := 4) h 1 rfl rfl dX8_copy_3 rfl ?_
      refine g_alen (np := 5) (v := (Int32.ofNat n1)) h 1 rfl rfl dX8_copy_4 rfl ?_
      refine g_icmp_ge h hF dX8_copy_5 (np := 8) rfl (tg := 26) rfl (fun c1001 hF => ?_) (fun c1001 hF => ?_)
      · exact hend _ hF _ _ dX8_copy_26
      · refine g_iload_n (np := 9) h 2 rfl rfl dX8_copy_8 rfl ?_
        refine g_aload_n (np := 10) h 0 rfl rfl dX8_copy_9 rfl ?_
        refine g_alen (np := 11) (v := (Int32.ofNat n0)) h 0 rfl rfl dX8_copy_10 rfl ?_
        refine g_icmp_ge h hF dX8_copy_11 (np := 14) rfl (tg := 26) rfl (fun c1002 hF => ?_) (fun c1002 hF => ?_)
        · exact hend _ hF _ _ dX8_copy_26
        · refine g_aload_n (np := 15) h 1 rfl rfl dX8_copy_14 rfl ?_
          refine g_iload_n (np := 16) h 2 rfl rfl dX8_copy_15 rfl ?_
          refine g_aload_n (np := 17) h 0 rfl rfl dX8_copy_16 rfl ?_
          refine g_iload_n (np := 18) h 2 rfl rfl dX8_copy_17 rfl ?_
          refine g_iald (np := 19) h 0 rfl hF dX8_copy_18 rfl (fun hi1003 hF => ?_)
          refine g_iast (np := 20) (Wd' := (wdX8_copy cI cZ q0 q1 n0 n1 v_row (wr v_row1 x2 (rd v_row x2)))) h 1 rfl hF rfl dX8_copy_19 rfl (fun hi1004 hF => ?_)
          refine g_iinc (np := 23) (v := (x2 + (1 : Int32))) (lv' := [(2, .int (x2 + (1 : Int32))), (0, .ref q0), (1, .ref q1)]) h 2 rfl rfl (by decide) rfl dX8_copy_20 rfl ?_
          refine g_goto h dX8_copy_23 (np := 2) rfl ?_
          refine g_lv [1, 2, 0] rfl ?_
          exact ih2 (wr v_row1 x2 (rd v_row x2)) (x2 + (1 : Int32)) hF
  unfold fX8_copy at hF
  refine g_iconst (np := 1) (v := (0 : Int32)) h (by decide) dX8_copy_0 rfl ?_
  refine g_istore_n (np := 2) (lv' := [(2, .int (0 : Int32)), (0, .ref q0), (1, .ref q1)]) h rfl (by decide) rfl dX8_copy_1 rfl ?_
  refine g_lv [1, 2, 0] rfl ?_
  exact hL2 _ v_row1 (0 : Int32) hF
theorem dX8_digit_0 : decode cX8_digit 0 = .ok (.iload_n 0, 1) := by decide +kernel
theorem dX8_digit_1 : decode cX8_digit 1 = .ok (.istore_n 2, 1) := by decide +kernel
theorem dX8_digit_2 : decode cX8_digit 2 = .ok (.iload_n 1, 1) := by decide +kernel
theorem dX8_digit_3 : decode cX8_digit 3 = .ok (.istore_n 3, 1) := by decide +kernel
theorem dX8_digit_4 : decode cX8_digit 4 = .ok (.iload_n 3, 1) := by decide +kernel
theorem dX8_digit_5 : decode cX8_digit 5 = .ok (.bipush 7, 2) := by decide +kernel
theorem dX8_digit_7 : decode cX8_digit 7 = .ok (.if_icmp .ge 14, 3) := by decide +kernel
theorem dX8_digit_10 : decode cX8_digit 10 = .ok (.iload_n 2, 1) := by decide +kernel
theorem dX8_digit_11 : decode cX8_digit 11 = .ok (.bipush 10, 2) := by decide +kernel
theorem dX8_digit_13 : decode cX8_digit 13 = .ok (.idiv, 1) := by decide +kernel
theorem dX8_digit_14 : decode cX8_digit 14 = .ok (.istore_n 2, 1) := by decide +kernel
theorem dX8_digit_15 : decode cX8_digit 15 = .ok (.iinc 3 1, 3) := by decide +kernel
theorem dX8_digit_18 : decode cX8_digit 18 = .ok (.goto (-14), 3) := by decide +kernel
theorem dX8_digit_21 : decode cX8_digit 21 = .ok (.iload_n 2, 1) := by decide +kernel
theorem dX8_digit_22 : decode cX8_digit 22 = .ok (.bipush 10, 2) := by decide +kernel
theorem dX8_digit_24 : decode cX8_digit 24 = .ok (.irem, 1) := by decide +kernel
theorem dX8_digit_25 : decode cX8_digit 25 = .ok (.ireturn, 1) := by decide +kernel
def wtX8_digit : List Cond := .code yX8_digit cX8_digit 4 (some .int) :: (([]) ++ [])
theorem imX8_digit_own : ∀ w ∈ ([] : List Cond), w ∈ wtX8_digit := fun w h => List.mem_cons_of_mem _ (inl h)
theorem gdX8_digit : ∀ w ∈ wtX8_digit, Gd w := gdc rfl (gda (gdl (by decide +kernel)) gdn)
def fX8_digit_4  : Nat → Int32 → Int32 → Option (Int32)
  | 0, _, _ => none
  | n + 1, x2, x3 =>
    if (7 : Int32) ≤ x3 then
      some (jrem x2 (10 : Int32))
    else
      fX8_digit_4 n (x2 / (10 : Int32)) (x3 + (1 : Int32))
def fX8_digit (x0 : Int32) (x1 : Int32) : Option (Int32) :=
  fX8_digit_4 2000 x0 x1
def wdX8_digit (cI cZ : ClassId)    : va_W := []
abbrev rmX8_digit : Jvm.Room := { frames := 0, cells := 0, slots := 0, locals := 0 }
theorem hyX8_digit : yX8_digit.cls ≠ "java/lang/invoke/MethodHandle" ∧ yX8_digit.cls ≠ "java/lang/invoke/VarHandle" ∧ (parseMethodDescriptor yX8_digit.desc).map (fun d => d.parameters.length) = some 2 := by decide +kernel
set_option maxHeartbeats 4000000 in
set_option maxRecDepth 100000 in
theorem mX8_digit (l : Launch) (D : va_G) (cI cZ : ClassId) (x0 : Int32) (x1 : Int32) (z : Int32) (hF : fX8_digit x0 x1 = some z) : mp l yX8_digit wtX8_digit rmX8_digit D cI cZ [.int x0, .int x1] (wdX8_digit cI cZ ) (some (.int z)) (wdX8_digit cI cZ ) := by
  refine mp_i (lv0 := [(0, .int x0), (1, .int x1)]) cX8_digit 4 z (by decide) rfl (Nat.le_of_ble_eq_true rfl) rfl (fun E h hend0 => ?_)
  have hend : ∀ (z' : Int32), some z' = some z → ∀ (pc : Nat) (lv : List (Nat × Value)), decode cX8_digit pc = .ok (.ireturn, 1) → G l D E 4 0 0 (wdX8_digit cI cZ ) pc lv [.int z'] := fun z' e => by cases e; exact hend0
  clear hend0
  have hL4 : ∀ (n4 : Nat) (x2 : Int32) (x3 : Int32), fX8_digit_4 n4 x2 x3 = some z → G l D E 4 0 0 (wdX8_digit cI cZ ) 4 [(2, .int x2), (3, .int x3)] [] := by
    intro n4
    induction n4 with
    | zero =>
      intro x2 x3 hF
      rw [fX8_digit_4] at hF
      cases hF
    | succ n4 ih4 =>
      intro x2 x3 hF
      rw [fX8_digit_4] at hF
      refine g_iload_n (np := 5) h 1 rfl rfl dX8_digit_4 rfl ?_
      refine g_bipush (np := 7) (v := (7 : Int32)) h (by decide) dX8_digit_5 rfl ?_
      refine g_icmp_ge h hF dX8_digit_7 (np := 10) rfl (tg := 21) rfl (fun c1001 hF => ?_) (fun c1001 hF => ?_)
      · refine g_iload_n (np := 22) h 0 rfl rfl dX8_digit_21 rfl ?_
        refine g_bipush (np := 24) (v := (10 : Int32)) h (by decide) dX8_digit_22 rfl ?_
        refine g_irem (np := 25) h (by decide) dX8_digit_24 rfl ?_
        exact hend _ hF _ _ dX8_digit_25
      · refine g_iload_n (np := 11) h 0 rfl rfl dX8_digit_10 rfl ?_
        refine g_bipush (np := 13) (v := (10 : Int32)) h (by decide) dX8_digit_11 rfl ?_
        refine g_idiv (np := 14) h (by decide) dX8_digit_13 rfl ?_
        refine g_istore_n (np := 15) (lv' := [(2, .int (x2 / (10 : Int32))), (3, .int x3)]) h rfl (by decide) rfl dX8_digit_14 rfl ?_
        refine g_iinc (np := 18) (v := (x3 + (1 : Int32))) (lv' := [(3, .int (x3 + (1 : Int32))), (2, .int (x2 / (10 : Int32)))]) h 1 rfl rfl (by decide) rfl dX8_digit_15 rfl ?_
        refine g_goto h dX8_digit_18 (np := 4) rfl ?_
        refine g_lv [1, 0] rfl ?_
        exact ih4 (x2 / (10 : Int32)) (x3 + (1 : Int32)) hF
  unfold fX8_digit at hF
  refine g_iload_n (np := 1) h 0 rfl rfl dX8_digit_0 rfl ?_
  refine g_istore_n (np := 2) (lv' := [(2, .int x0), (0, .int x0), (1, .int x1)]) h rfl (by decide) rfl dX8_digit_1 rfl ?_
  refine g_iload_n (np := 3) h 2 rfl rfl dX8_digit_2 rfl ?_
  refine g_istore_n (np := 4) (lv' := [(3, .int x1), (2, .int x0), (0, .int x0), (1, .int x1)]) h rfl (by decide) rfl dX8_digit_3 rfl ?_
  refine g_lv [1, 0] rfl ?_
  exact hL4 _ x0 x1 hF
theorem dX8_alike_0 : decode cX8_alike 0 = .ok (.iconst 0, 1) := by decide +kernel
theorem dX8_alike_1 : decode cX8_alike 1 = .ok (.istore_n 3, 1) := by decide +kernel
theorem dX8_alike_2 : decode cX8_alike 2 = .ok (.iconst 0, 1) := by decide +kernel
theorem dX8_alike_3 : decode cX8_alike 3 = .ok (.istore 4, 2) := by decide +kernel
theorem dX8_alike_5 : decode cX8_alike 5 = .ok (.iload 4, 2) := by decide +kernel
theorem dX8_alike_7 : decode cX8_alike 7 = .ok (.bipush 8, 2) := by decide +kernel
theorem dX8_alike_9 : decode cX8_alike 9 = .ok (.if_icmp .ge 44, 3) := by decide +kernel
theorem dX8_alike_12 : decode cX8_alike 12 = .ok (.iload 4, 2) := by decide +kernel
theorem dX8_alike_14 : decode cX8_alike 14 = .ok (.iload_n 2, 1) := by decide +kernel
theorem dX8_alike_15 : decode cX8_alike 15 = .ok (.isub, 1) := by decide +kernel
theorem dX8_alike_16 : decode cX8_alike 16 = .ok (.istore 5, 2) := by decide +kernel
theorem dX8_alike_18 : decode cX8_alike 18 = .ok (.iload 5, 2) := by decide +kernel
theorem dX8_alike_20 : decode cX8_alike 20 = .ok (.iconst 0, 1) := by decide +kernel
theorem dX8_alike_21 : decode cX8_alike 21 = .ok (.bipush 7, 2) := by decide +kernel
theorem dX8_alike_23 : decode cX8_alike 23 = .ok (.invokestatic 61, 3) := by decide +kernel
theorem dX8_alike_26 : decode cX8_alike 26 = .ok (.ifCond .eq 21, 3) := by decide +kernel
theorem dX8_alike_29 : decode cX8_alike 29 = .ok (.iload_n 0, 1) := by decide +kernel
theorem dX8_alike_30 : decode cX8_alike 30 = .ok (.iload 4, 2) := by decide +kernel
theorem dX8_alike_32 : decode cX8_alike 32 = .ok (.invokestatic 236, 3) := by decide +kernel
theorem dX8_alike_35 : decode cX8_alike 35 = .ok (.iload_n 1, 1) := by decide +kernel
theorem dX8_alike_36 : decode cX8_alike 36 = .ok (.iload 5, 2) := by decide +kernel
theorem dX8_alike_38 : decode cX8_alike 38 = .ok (.invokestatic 236, 3) := by decide +kernel
theorem dX8_alike_41 : decode cX8_alike 41 = .ok (.if_icmp .ne 6, 3) := by decide +kernel
theorem dX8_alike_44 : decode cX8_alike 44 = .ok (.iinc 3 1, 3) := by decide +kernel
theorem dX8_alike_47 : decode cX8_alike 47 = .ok (.iinc 4 1, 3) := by decide +kernel
theorem dX8_alike_50 : decode cX8_alike 50 = .ok (.goto (-45), 3) := by decide +kernel
theorem dX8_alike_53 : decode cX8_alike 53 = .ok (.iload_n 3, 1) := by decide +kernel
theorem dX8_alike_54 : decode cX8_alike 54 = .ok (.ireturn, 1) := by decide +kernel
def wtX8_alike : List Cond := .code yX8_alike cX8_alike 6 (some .int) :: (([]) ++ ((va_wsS RX8 61 yX8_within wtX8_within) ++ ((va_wsS RX8 236 yX8_digit wtX8_digit) ++ [])))
theorem imX8_alike_own : ∀ w ∈ ([] : List Cond), w ∈ wtX8_alike := fun w h => List.mem_cons_of_mem _ (inl h)
theorem imX8_alike_c_X8_within : ∀ w ∈ (va_wsS RX8 61 yX8_within wtX8_within : List Cond), w ∈ wtX8_alike := fun w h => List.mem_cons_of_mem _ (inr (inl h))
theorem imX8_alike_c_X8_digit : ∀ w ∈ (va_wsS RX8 236 yX8_digit wtX8_digit : List Cond), w ∈ wtX8_alike := fun w h => List.mem_cons_of_mem _ (inr (inr (inl h)))
theorem gdX8_alike : ∀ w ∈ wtX8_alike, Gd w := gdc rfl (gda (gdl (by decide +kernel)) (gda (gda (gdl (by decide +kernel)) gdX8_within) (gda (gda (gdl (by decide +kernel)) gdX8_digit) gdn)))
theorem gcX8_alike_X8_within : GoodIn wtX8_alike (va_wsS RX8 61 yX8_within wtX8_within) := fun w h => ⟨imX8_alike_c_X8_within w h, (gda (gdl (by decide +kernel)) gdX8_within) w h⟩
theorem gcX8_alike_X8_digit : GoodIn wtX8_alike (va_wsS RX8 236 yX8_digit wtX8_digit) := fun w h => ⟨imX8_alike_c_X8_digit w h, (gda (gdl (by decide +kernel)) gdX8_digit) w h⟩
def fX8_alike_5 (x0 : Int32) (x1 : Int32) (x2 : Int32) : Nat → Int32 → Int32 → Option (Int32)
  | 0, _, _ => none
  | n + 1, x3, x4 =>
    if (8 : Int32) ≤ x4 then
      some x3
    else
      (fX8_within (x4 - x2) (0 : Int32) (7 : Int32)).bind (fun r1002 =>
        if r1002 = (0 : Int32) then
          fX8_alike_5 x0 x1 x2 n x3 (x4 + (1 : Int32))
        else
          (fX8_digit x0 x4).bind (fun r1004 =>
            (fX8_digit x1 (x4 - x2)).bind (fun r1005 =>
              if r1004 = r1005 then
                fX8_alike_5 x0 x1 x2 n (x3 + (1 : Int32)) (x4 + (1 : Int32))
              else
                fX8_alike_5 x0 x1 x2 n x3 (x4 + (1 : Int32)))))
def fX8_alike (x0 : Int32) (x1 : Int32) (x2 : Int32) : Option (Int32) :=
  fX8_alike_5 x0 x1 x2 2000 (0 : Int32) (0 : Int32)
def wdX8_alike (cI cZ : ClassId)    : va_W := []
abbrev rmX8_alike : Jvm.Room := { frames := 1, cells := 0, slots := 0, locals := 23 }
theorem hyX8_alike : yX8_alike.cls ≠ "java/lang/invoke/MethodHandle" ∧ yX8_alike.cls ≠ "java/lang/invoke/VarHandle" ∧ (parseMethodDescriptor yX8_alike.desc).map (fun d => d.parameters.length) = some 3 := by decide +kernel
set_option maxHeartbeats 4000000 in
set_option maxRecDepth 100000 in
theorem mX8_alike (l : Launch) (D : va_G) (cI cZ : ClassId) (x0 : Int32) (x1 : Int32) (x2 : Int32) (z : Int32) (hF : fX8_alike x0 x1 x2 = some z) : mp l yX8_alike wtX8_alike rmX8_alike D cI cZ [.int x0, .int x1, .int x2] (wdX8_alike cI cZ ) (some (.int z)) (wdX8_alike cI cZ ) := by
  refine mp_i (lv0 := [(0, .int x0), (1, .int x1), (2, .int x2)]) cX8_alike 6 z (by decide) rfl (Nat.le_of_ble_eq_true rfl) rfl (fun E h hend0 => ?_)
  have hend : ∀ (z' : Int32), some z' = some z → ∀ (pc : Nat) (lv : List (Nat × Value)), decode cX8_alike pc = .ok (.ireturn, 1) → G l D E 6 0 0 (wdX8_alike cI cZ ) pc lv [.int z'] := fun z' e => by cases e; exact hend0
  clear hend0
  have hL5 : ∀ (n5 : Nat) (x3 : Int32) (x4 : Int32), fX8_alike_5 x0 x1 x2 n5 x3 x4 = some z → G l D E 6 0 0 (wdX8_alike cI cZ ) 5 [(0, .int x0), (1, .int x1), (2, .int x2), (3, .int x3), (4, .int x4)] [] := by
    intro n5
    induction n5 with
    | zero =>
      intro x3 x4 hF
      rw [fX8_alike_5] at hF
      cases hF
    | succ n5 ih5 =>
      intro x3 x4 hF
      rw [fX8_alike_5] at hF
      refine g_iload (np := 7) h 4 rfl dX8_alike_5 rfl ?_
      refine g_bipush (np := 9) (v := (8 : Int32)) h (by decide) dX8_alike_7 rfl ?_
      refine g_icmp_ge h hF dX8_alike_9 (np := 12) rfl (tg := 53) rfl (fun c1001 hF => ?_) (fun c1001 hF => ?_)
      · refine g_iload_n (np := 54) h 3 rfl rfl dX8_alike_53 rfl ?_
        exact hend _ hF _ _ dX8_alike_54
      · refine g_iload (np := 14) h 4 rfl dX8_alike_12 rfl ?_
        refine g_iload_n (np := 15) h 2 rfl rfl dX8_alike_14 rfl ?_
        refine g_isub (np := 16) h dX8_alike_15 rfl ?_
        refine g_istore (np := 18) (lv' := [(5, .int (x4 - x2)), (0, .int x0), (1, .int x1), (2, .int x2), (3, .int x3), (4, .int x4)]) h (by decide) rfl dX8_alike_16 rfl ?_
        refine g_iload (np := 20) h 0 rfl dX8_alike_18 rfl ?_
        refine g_iconst (np := 21) (v := (0 : Int32)) h (by decide) dX8_alike_20 rfl ?_
        refine g_bipush (np := 23) (v := (7 : Int32)) h (by decide) dX8_alike_21 rfl ?_
        obtain ⟨r1002, hr1002, hF⟩ := Option.bind_eq_some_iff.mp hF
        refine g_callS (np := 26) (Wd' := (wdX8_alike cI cZ )) (As := [.int (x4 - x2), .int (0 : Int32), .int (7 : Int32)]) h (mX8_within l D cI cZ (x4 - x2) (0 : Int32) (7 : Int32) r1002 hr1002) gcX8_alike_X8_within rfl ⟨rfl, rfl⟩ hyX8_within rfl rfl rfl rfl ⟨Nat.zero_le _, Nat.zero_le _⟩ [] [] (N := 0) (by decide +kernel) rfl rfl rfl rfl rfl dX8_alike_23 rfl ?_
        refine g_if_eq h hF dX8_alike_26 (np := 29) rfl (tg := 47) rfl (fun c1003 hF => ?_) (fun c1003 hF => ?_)
        · refine g_iinc (np := 50) (v := (x4 + (1 : Int32))) (lv' := [(4, .int (x4 + (1 : Int32))), (5, .int (x4 - x2)), (0, .int x0), (1, .int x1), (2, .int x2), (3, .int x3)]) h 5 rfl rfl (by decide) rfl dX8_alike_47 rfl ?_
          refine g_goto h dX8_alike_50 (np := 5) rfl ?_
          refine g_lv [2, 3, 4, 5, 0] rfl ?_
          exact ih5 x3 (x4 + (1 : Int32)) hF
        · refine g_iload_n (np := 30) h 1 rfl rfl dX8_alike_29 rfl ?_
          refine g_iload (np := 32) h 5 rfl dX8_alike_30 rfl ?_
          obtain ⟨r1004, hr1004, hF⟩ := Option.bind_eq_some_iff.mp hF
          refine g_callS (np := 35) (Wd' := (wdX8_alike cI cZ )) (As := [.int x0, .int x4]) h (mX8_digit l D cI cZ x0 x4 r1004 hr1004) gcX8_alike_X8_digit rfl ⟨rfl, rfl⟩ hyX8_digit rfl rfl rfl rfl ⟨Nat.zero_le _, Nat.zero_le _⟩ [] [] (N := 0) (by decide +kernel) rfl rfl rfl rfl rfl dX8_alike_32 rfl ?_
          refine g_iload_n (np := 36) h 2 rfl rfl dX8_alike_35 rfl ?_
          refine g_iload (np := 38) h 0 rfl dX8_alike_36 rfl ?_
          obtain ⟨r1005, hr1005, hF⟩ := Option.bind_eq_some_iff.mp hF
          refine g_callS (np := 41) (Wd' := (wdX8_alike cI cZ )) (As := [.int x1, .int (x4 - x2)]) h (mX8_digit l D cI cZ x1 (x4 - x2) r1005 hr1005) gcX8_alike_X8_digit rfl ⟨rfl, rfl⟩ hyX8_digit rfl rfl rfl rfl ⟨Nat.zero_le _, Nat.zero_le _⟩ [] [] (N := 0) (by decide +kernel) rfl rfl rfl rfl rfl dX8_alike_38 rfl ?_
          refine g_icmp_ne h hF dX8_alike_41 (np := 44) rfl (tg := 47) rfl (fun c1006 hF => ?_) (fun c1006 hF => ?_)
          · refine g_iinc (np := 50) (v := (x4 + (1 : Int32))) (lv' := [(4, .int (x4 + (1 : Int32))), (5, .int (x4 - x2)), (0, .int x0), (1, .int x1), (2, .int x2), (3, .int x3)]) h 5 rfl rfl (by decide) rfl dX8_alike_47 rfl ?_
            refine g_goto h dX8_alike_50 (np := 5) rfl ?_
            refine g_lv [2, 3, 4, 5, 0] rfl ?_
            exact ih5 x3 (x4 + (1 : Int32)) hF
          · refine g_iinc (np := 47) (v := (x3 + (1 : Int32))) (lv' := [(3, .int (x3 + (1 : Int32))), (5, .int (x4 - x2)), (0, .int x0), (1, .int x1), (2, .int x2), (4, .int x4)]) h 4 rfl rfl (by decide) rfl dX8_alike_44 rfl ?_
            refine g_iinc (np := 50) (v := (x4 + (1 : Int32))) (lv' := [(4, .int (x4 + (1 : Int32))), (3, .int (x3 + (1 : Int32))), (5, .int (x4 - x2)), (0, .int x0), (1, .int x1), (2, .int x2)]) h 5 rfl rfl (by decide) rfl dX8_alike_47 rfl ?_
            refine g_goto h dX8_alike_50 (np := 5) rfl ?_
            refine g_lv [3, 4, 5, 1, 0] rfl ?_
            exact ih5 (x3 + (1 : Int32)) (x4 + (1 : Int32)) hF
  unfold fX8_alike at hF
  refine g_iconst (np := 1) (v := (0 : Int32)) h (by decide) dX8_alike_0 rfl ?_
  refine g_istore_n (np := 2) (lv' := [(3, .int (0 : Int32)), (0, .int x0), (1, .int x1), (2, .int x2)]) h rfl (by decide) rfl dX8_alike_1 rfl ?_
  refine g_iconst (np := 3) (v := (0 : Int32)) h (by decide) dX8_alike_2 rfl ?_
  refine g_istore (np := 5) (lv' := [(4, .int (0 : Int32)), (3, .int (0 : Int32)), (0, .int x0), (1, .int x1), (2, .int x2)]) h (by decide) rfl dX8_alike_3 rfl ?_
  refine g_lv [2, 3, 4, 1, 0] rfl ?_
  exact hL5 _ (0 : Int32) (0 : Int32) hF
theorem dX8_bitsNear_0 : decode cX8_bitsNear 0 = .ok (.iconst 0, 1) := by decide +kernel
theorem dX8_bitsNear_1 : decode cX8_bitsNear 1 = .ok (.istore_n 2, 1) := by decide +kernel
theorem dX8_bitsNear_2 : decode cX8_bitsNear 2 = .ok (.iconst 0, 1) := by decide +kernel
theorem dX8_bitsNear_3 : decode cX8_bitsNear 3 = .ok (.istore_n 3, 1) := by decide +kernel
theorem dX8_bitsNear_4 : decode cX8_bitsNear 4 = .ok (.iload_n 3, 1) := by decide +kernel
theorem dX8_bitsNear_5 : decode cX8_bitsNear 5 = .ok (.bipush 8, 2) := by decide +kernel
theorem dX8_bitsNear_7 : decode cX8_bitsNear 7 = .ok (.if_icmp .ge 25, 3) := by decide +kernel
theorem dX8_bitsNear_10 : decode cX8_bitsNear 10 = .ok (.iload_n 3, 1) := by decide +kernel
theorem dX8_bitsNear_11 : decode cX8_bitsNear 11 = .ok (.iload_n 0, 1) := by decide +kernel
theorem dX8_bitsNear_12 : decode cX8_bitsNear 12 = .ok (.isub, 1) := by decide +kernel
theorem dX8_bitsNear_13 : decode cX8_bitsNear 13 = .ok (.invokestatic 239, 3) := by decide +kernel
theorem dX8_bitsNear_16 : decode cX8_bitsNear 16 = .ok (.iload_n 1, 1) := by decide +kernel
theorem dX8_bitsNear_17 : decode cX8_bitsNear 17 = .ok (.if_icmp .gt 9, 3) := by decide +kernel
theorem dX8_bitsNear_20 : decode cX8_bitsNear 20 = .ok (.iload_n 2, 1) := by decide +kernel
theorem dX8_bitsNear_21 : decode cX8_bitsNear 21 = .ok (.iconst 1, 1) := by decide +kernel
theorem dX8_bitsNear_22 : decode cX8_bitsNear 22 = .ok (.iload_n 3, 1) := by decide +kernel
theorem dX8_bitsNear_23 : decode cX8_bitsNear 23 = .ok (.ishl, 1) := by decide +kernel
theorem dX8_bitsNear_24 : decode cX8_bitsNear 24 = .ok (.ior, 1) := by decide +kernel
theorem dX8_bitsNear_25 : decode cX8_bitsNear 25 = .ok (.istore_n 2, 1) := by decide +kernel
theorem dX8_bitsNear_26 : decode cX8_bitsNear 26 = .ok (.iinc 3 1, 3) := by decide +kernel
theorem dX8_bitsNear_29 : decode cX8_bitsNear 29 = .ok (.goto (-25), 3) := by decide +kernel
theorem dX8_bitsNear_32 : decode cX8_bitsNear 32 = .ok (.iload_n 2, 1) := by decide +kernel
theorem dX8_bitsNear_33 : decode cX8_bitsNear 33 = .ok (.ireturn, 1) := by decide +kernel
def wtX8_bitsNear : List Cond := .code yX8_bitsNear cX8_bitsNear 4 (some .int) :: (([.methodLink RX8 239 Lib.Math.abs.name, .static Lib.Math.abs.name, .initialized "java/lang/Math", .code Lib.Math.abs.name Lib.Math.abs.code 1 (some .int)]) ++ [])
theorem imX8_bitsNear_own : ∀ w ∈ ([.methodLink RX8 239 Lib.Math.abs.name, .static Lib.Math.abs.name, .initialized "java/lang/Math", .code Lib.Math.abs.name Lib.Math.abs.code 1 (some .int)] : List Cond), w ∈ wtX8_bitsNear := fun w h => List.mem_cons_of_mem _ (inl h)
theorem gdX8_bitsNear : ∀ w ∈ wtX8_bitsNear, Gd w := gdc rfl (gda (gdl (by decide +kernel)) gdn)
def fX8_bitsNear_4 (x0 : Int32) (x1 : Int32) : Nat → Int32 → Int32 → Option (Int32)
  | 0, _, _ => none
  | n + 1, x2, x3 =>
    if (8 : Int32) ≤ x3 then
      some x2
    else
      if x1 < (jabs (x3 - x0)) then
        fX8_bitsNear_4 x0 x1 n x2 (x3 + (1 : Int32))
      else
        fX8_bitsNear_4 x0 x1 n (x2 ||| (jshl (1 : Int32) x3)) (x3 + (1 : Int32))
def fX8_bitsNear (x0 : Int32) (x1 : Int32) : Option (Int32) :=
  fX8_bitsNear_4 x0 x1 2000 (0 : Int32) (0 : Int32)
def wdX8_bitsNear (cI cZ : ClassId)    : va_W := []
abbrev rmX8_bitsNear : Jvm.Room := { frames := 1, cells := 0, slots := 0, locals := 21 }
theorem hyX8_bitsNear : yX8_bitsNear.cls ≠ "java/lang/invoke/MethodHandle" ∧ yX8_bitsNear.cls ≠ "java/lang/invoke/VarHandle" ∧ (parseMethodDescriptor yX8_bitsNear.desc).map (fun d => d.parameters.length) = some 2 := by decide +kernel
set_option maxHeartbeats 4000000 in
set_option maxRecDepth 100000 in
theorem mX8_bitsNear (l : Launch) (D : va_G) (cI cZ : ClassId) (x0 : Int32) (x1 : Int32) (z : Int32) (hF : fX8_bitsNear x0 x1 = some z) : mp l yX8_bitsNear wtX8_bitsNear rmX8_bitsNear D cI cZ [.int x0, .int x1] (wdX8_bitsNear cI cZ ) (some (.int z)) (wdX8_bitsNear cI cZ ) := by
  refine mp_i (lv0 := [(0, .int x0), (1, .int x1)]) cX8_bitsNear 4 z (by decide) rfl (Nat.le_of_ble_eq_true rfl) rfl (fun E h hend0 => ?_)
  have hend : ∀ (z' : Int32), some z' = some z → ∀ (pc : Nat) (lv : List (Nat × Value)), decode cX8_bitsNear pc = .ok (.ireturn, 1) → G l D E 4 0 0 (wdX8_bitsNear cI cZ ) pc lv [.int z'] := fun z' e => by cases e; exact hend0
  clear hend0
  have hL4 : ∀ (n4 : Nat) (x2 : Int32) (x3 : Int32), fX8_bitsNear_4 x0 x1 n4 x2 x3 = some z → G l D E 4 0 0 (wdX8_bitsNear cI cZ ) 4 [(0, .int x0), (1, .int x1), (2, .int x2), (3, .int x3)] [] := by
    intro n4
    induction n4 with
    | zero =>
      intro x2 x3 hF
      rw [fX8_bitsNear_4] at hF
      cases hF
    | succ n4 ih4 =>
      intro x2 x3 hF
      rw [fX8_bitsNear_4] at hF
      refine g_iload_n (np := 5) h 3 rfl rfl dX8_bitsNear_4 rfl ?_
      refine g_bipush (np := 7) (v := (8 : Int32)) h (by decide) dX8_bitsNear_5 rfl ?_
      refine g_icmp_ge h hF dX8_bitsNear_7 (np := 10) rfl (tg := 32) rfl (fun c1001 hF => ?_) (fun c1001 hF => ?_)
      · refine g_iload_n (np := 33) h 2 rfl rfl dX8_bitsNear_32 rfl ?_
        exact hend _ hF _ _ dX8_bitsNear_33
      · refine g_iload_n (np := 11) h 3 rfl rfl dX8_bitsNear_10 rfl ?_
        refine g_iload_n (np := 12) h 0 rfl rfl dX8_bitsNear_11 rfl ?_
        refine g_isub (np := 13) h dX8_bitsNear_12 rfl ?_
        refine g_mabs (np := 16) h (imX8_bitsNear_own _ (List.mem_of_getElem? (i := 0) rfl)) (imX8_bitsNear_own _ (List.mem_of_getElem? (i := 1) rfl)) (imX8_bitsNear_own _ (List.mem_of_getElem? (i := 2) rfl)) (imX8_bitsNear_own _ (List.mem_of_getElem? (i := 3) rfl)) rfl rfl ⟨Nat.zero_le _, Nat.zero_le _⟩ dX8_bitsNear_13 rfl ?_
        refine g_iload_n (np := 17) h 1 rfl rfl dX8_bitsNear_16 rfl ?_
        refine g_icmp_gt h hF dX8_bitsNear_17 (np := 20) rfl (tg := 26) rfl (fun c1002 hF => ?_) (fun c1002 hF => ?_)
        · refine g_iinc (np := 29) (v := (x3 + (1 : Int32))) (lv' := [(3, .int (x3 + (1 : Int32))), (0, .int x0), (1, .int x1), (2, .int x2)]) h 3 rfl rfl (by decide) rfl dX8_bitsNear_26 rfl ?_
          refine g_goto h dX8_bitsNear_29 (np := 4) rfl ?_
          refine g_lv [1, 2, 3, 0] rfl ?_
          exact ih4 x2 (x3 + (1 : Int32)) hF
        · refine g_iload_n (np := 21) h 2 rfl rfl dX8_bitsNear_20 rfl ?_
          refine g_iconst (np := 22) (v := (1 : Int32)) h (by decide) dX8_bitsNear_21 rfl ?_
          refine g_iload_n (np := 23) h 3 rfl rfl dX8_bitsNear_22 rfl ?_
          refine g_ishl (np := 24) h dX8_bitsNear_23 rfl ?_
          refine g_ior (np := 25) h dX8_bitsNear_24 rfl ?_
          refine g_istore_n (np := 26) (lv' := [(2, .int (x2 ||| (jshl (1 : Int32) x3))), (0, .int x0), (1, .int x1), (3, .int x3)]) h rfl (by decide) rfl dX8_bitsNear_25 rfl ?_
          refine g_iinc (np := 29) (v := (x3 + (1 : Int32))) (lv' := [(3, .int (x3 + (1 : Int32))), (2, .int (x2 ||| (jshl (1 : Int32) x3))), (0, .int x0), (1, .int x1)]) h 3 rfl rfl (by decide) rfl dX8_bitsNear_26 rfl ?_
          refine g_goto h dX8_bitsNear_29 (np := 4) rfl ?_
          refine g_lv [2, 3, 1, 0] rfl ?_
          exact ih4 (x2 ||| (jshl (1 : Int32) x3)) (x3 + (1 : Int32)) hF
  unfold fX8_bitsNear at hF
  refine g_iconst (np := 1) (v := (0 : Int32)) h (by decide) dX8_bitsNear_0 rfl ?_
  refine g_istore_n (np := 2) (lv' := [(2, .int (0 : Int32)), (0, .int x0), (1, .int x1)]) h rfl (by decide) rfl dX8_bitsNear_1 rfl ?_
  refine g_iconst (np := 3) (v := (0 : Int32)) h (by decide) dX8_bitsNear_2 rfl ?_
  refine g_istore_n (np := 4) (lv' := [(3, .int (0 : Int32)), (2, .int (0 : Int32)), (0, .int x0), (1, .int x1)]) h rfl (by decide) rfl dX8_bitsNear_3 rfl ?_
  refine g_lv [2, 3, 1, 0] rfl ?_
  exact hL4 _ (0 : Int32) (0 : Int32) hF
theorem dX8_power_0 : decode cX8_power 0 = .ok (.lconst 1, 1) := by decide +kernel
theorem dX8_power_1 : decode cX8_power 1 = .ok (.lstore_n 2, 1) := by decide +kernel
theorem dX8_power_2 : decode cX8_power 2 = .ok (.iconst 0, 1) := by decide +kernel
theorem dX8_power_3 : decode cX8_power 3 = .ok (.istore 4, 2) := by decide +kernel
theorem dX8_power_5 : decode cX8_power 5 = .ok (.iload 4, 2) := by decide +kernel
theorem dX8_power_7 : decode cX8_power 7 = .ok (.iload_n 1, 1) := by decide +kernel
theorem dX8_power_8 : decode cX8_power 8 = .ok (.if_icmp .ge 14, 3) := by decide +kernel
theorem dX8_power_11 : decode cX8_power 11 = .ok (.lload_n 2, 1) := by decide +kernel
theorem dX8_power_12 : decode cX8_power 12 = .ok (.iload_n 0, 1) := by decide +kernel
theorem dX8_power_13 : decode cX8_power 13 = .ok (.i2l, 1) := by decide +kernel
theorem dX8_power_14 : decode cX8_power 14 = .ok (.lmul, 1) := by decide +kernel
theorem dX8_power_15 : decode cX8_power 15 = .ok (.lstore_n 2, 1) := by decide +kernel
theorem dX8_power_16 : decode cX8_power 16 = .ok (.iinc 4 1, 3) := by decide +kernel
theorem dX8_power_19 : decode cX8_power 19 = .ok (.goto (-14), 3) := by decide +kernel
theorem dX8_power_22 : decode cX8_power 22 = .ok (.lload_n 2, 1) := by decide +kernel
theorem dX8_power_23 : decode cX8_power 23 = .ok (.lreturn, 1) := by decide +kernel
def wtX8_power : List Cond := .code yX8_power cX8_power 5 (some .long) :: (([]) ++ [])
theorem imX8_power_own : ∀ w ∈ ([] : List Cond), w ∈ wtX8_power := fun w h => List.mem_cons_of_mem _ (inl h)
theorem gdX8_power : ∀ w ∈ wtX8_power, Gd w := gdc rfl (gda (gdl (by decide +kernel)) gdn)
def fX8_power_5 (x0 : Int32) (x1 : Int32) : Nat → Int64 → Int32 → Option (Int64)
  | 0, _, _ => none
  | n + 1, x2, x4 =>
    if x1 ≤ x4 then
      some x2
    else
      fX8_power_5 x0 x1 n (x2 * (Int32.toInt64 x0)) (x4 + (1 : Int32))
def fX8_power (x0 : Int32) (x1 : Int32) : Option (Int64) :=
  fX8_power_5 x0 x1 2000 (1 : Int64) (0 : Int32)
def wdX8_power (cI cZ : ClassId)    : va_W := []
abbrev rmX8_power : Jvm.Room := { frames := 0, cells := 0, slots := 0, locals := 0 }
theorem hyX8_power : yX8_power.cls ≠ "java/lang/invoke/MethodHandle" ∧ yX8_power.cls ≠ "java/lang/invoke/VarHandle" ∧ (parseMethodDescriptor yX8_power.desc).map (fun d => d.parameters.length) = some 2 := by decide +kernel
set_option maxHeartbeats 4000000 in
set_option maxRecDepth 100000 in
theorem mX8_power (l : Launch) (D : va_G) (cI cZ : ClassId) (x0 : Int32) (x1 : Int32) (z : Int64) (hF : fX8_power x0 x1 = some z) : mp l yX8_power wtX8_power rmX8_power D cI cZ [.int x0, .int x1] (wdX8_power cI cZ ) (some (.long z)) (wdX8_power cI cZ ) := by
  refine mp_l (lv0 := [(0, .int x0), (1, .int x1)]) cX8_power 5 z (by decide) rfl (Nat.le_of_ble_eq_true rfl) rfl (fun E h hend0 => ?_)
  have hend : ∀ (z' : Int64), some z' = some z → ∀ (pc : Nat) (lv : List (Nat × Value)), decode cX8_power pc = .ok (.lreturn, 1) → G l D E 5 0 0 (wdX8_power cI cZ ) pc lv [.long z'] := fun z' e => by cases e; exact hend0
  clear hend0
  have hL5 : ∀ (n5 : Nat) (x2 : Int64) (x4 : Int32), fX8_power_5 x0 x1 n5 x2 x4 = some z → G l D E 5 0 0 (wdX8_power cI cZ ) 5 [(0, .int x0), (1, .int x1), (2, .long x2), (4, .int x4)] [] := by
    intro n5
    induction n5 with
    | zero =>
      intro x2 x4 hF
      rw [fX8_power_5] at hF
      cases hF
    | succ n5 ih5 =>
      intro x2 x4 hF
      rw [fX8_power_5] at hF
      refine g_iload (np := 7) h 3 rfl dX8_power_5 rfl ?_
      refine g_iload_n (np := 8) h 1 rfl rfl dX8_power_7 rfl ?_
      refine g_icmp_ge h hF dX8_power_8 (np := 11) rfl (tg := 22) rfl (fun c1001 hF => ?_) (fun c1001 hF => ?_)
      · refine g_lload_n (np := 23) h 2 rfl rfl dX8_power_22 rfl ?_
        exact hend _ hF _ _ dX8_power_23
      · refine g_lload_n (np := 12) h 2 rfl rfl dX8_power_11 rfl ?_
        refine g_iload_n (np := 13) h 0 rfl rfl dX8_power_12 rfl ?_
        refine g_i2l (np := 14) h dX8_power_13 rfl ?_
        refine g_lmul (np := 15) h dX8_power_14 rfl ?_
        refine g_lstore_n (np := 16) (lv' := [(2, .long (x2 * (Int32.toInt64 x0))), (0, .int x0), (1, .int x1), (4, .int x4)]) h rfl (by decide) rfl dX8_power_15 rfl ?_
        refine g_iinc (np := 19) (v := (x4 + (1 : Int32))) (lv' := [(4, .int (x4 + (1 : Int32))), (2, .long (x2 * (Int32.toInt64 x0))), (0, .int x0), (1, .int x1)]) h 3 rfl rfl (by decide) rfl dX8_power_16 rfl ?_
        refine g_goto h dX8_power_19 (np := 5) rfl ?_
        refine g_lv [2, 3, 1, 0] rfl ?_
        exact ih5 (x2 * (Int32.toInt64 x0)) (x4 + (1 : Int32)) hF
  unfold fX8_power at hF
  refine g_lconst (np := 1) (v := (1 : Int64)) h (by decide) dX8_power_0 rfl ?_
  refine g_lstore_n (np := 2) (lv' := [(2, .long (1 : Int64)), (0, .int x0), (1, .int x1)]) h rfl (by decide) rfl dX8_power_1 rfl ?_
  refine g_iconst (np := 3) (v := (0 : Int32)) h (by decide) dX8_power_2 rfl ?_
  refine g_istore (np := 5) (lv' := [(4, .int (0 : Int32)), (2, .long (1 : Int64)), (0, .int x0), (1, .int x1)]) h (by decide) rfl dX8_power_3 rfl ?_
  refine g_lv [2, 3, 1, 0] rfl ?_
  exact hL5 _ (1 : Int64) (0 : Int32) hF
theorem dX8_greatestDivisor_0 : decode cX8_greatestDivisor 0 = .ok (.lload_n 0, 1) := by decide +kernel
theorem dX8_greatestDivisor_1 : decode cX8_greatestDivisor 1 = .ok (.lstore 4, 2) := by decide +kernel
theorem dX8_greatestDivisor_3 : decode cX8_greatestDivisor 3 = .ok (.lload_n 2, 1) := by decide +kernel
theorem dX8_greatestDivisor_4 : decode cX8_greatestDivisor 4 = .ok (.lstore 6, 2) := by decide +kernel
theorem dX8_greatestDivisor_6 : decode cX8_greatestDivisor 6 = .ok (.iconst 0, 1) := by decide +kernel
theorem dX8_greatestDivisor_7 : decode cX8_greatestDivisor 7 = .ok (.istore 8, 2) := by decide +kernel
theorem dX8_greatestDivisor_9 : decode cX8_greatestDivisor 9 = .ok (.iload 8, 2) := by decide +kernel
theorem dX8_greatestDivisor_11 : decode cX8_greatestDivisor 11 = .ok (.bipush 100, 2) := by decide +kernel
theorem dX8_greatestDivisor_13 : decode cX8_greatestDivisor 13 = .ok (.if_icmp .ge 31, 3) := by decide +kernel
theorem dX8_greatestDivisor_16 : decode cX8_greatestDivisor 16 = .ok (.lload 6, 2) := by decide +kernel
theorem dX8_greatestDivisor_18 : decode cX8_greatestDivisor 18 = .ok (.lconst 0, 1) := by decide +kernel
theorem dX8_greatestDivisor_19 : decode cX8_greatestDivisor 19 = .ok (.lcmp, 1) := by decide +kernel
theorem dX8_greatestDivisor_20 : decode cX8_greatestDivisor 20 = .ok (.ifCond .eq 24, 3) := by decide +kernel
theorem dX8_greatestDivisor_23 : decode cX8_greatestDivisor 23 = .ok (.lload 4, 2) := by decide +kernel
theorem dX8_greatestDivisor_25 : decode cX8_greatestDivisor 25 = .ok (.lload 6, 2) := by decide +kernel
theorem dX8_greatestDivisor_27 : decode cX8_greatestDivisor 27 = .ok (.lrem, 1) := by decide +kernel
theorem dX8_greatestDivisor_28 : decode cX8_greatestDivisor 28 = .ok (.lstore 9, 2) := by decide +kernel
theorem dX8_greatestDivisor_30 : decode cX8_greatestDivisor 30 = .ok (.lload 6, 2) := by decide +kernel
theorem dX8_greatestDivisor_32 : decode cX8_greatestDivisor 32 = .ok (.lstore 4, 2) := by decide +kernel
theorem dX8_greatestDivisor_34 : decode cX8_greatestDivisor 34 = .ok (.lload 9, 2) := by decide +kernel
theorem dX8_greatestDivisor_36 : decode cX8_greatestDivisor 36 = .ok (.lstore 6, 2) := by decide +kernel
theorem dX8_greatestDivisor_38 : decode cX8_greatestDivisor 38 = .ok (.iinc 8 1, 3) := by decide +kernel
theorem dX8_greatestDivisor_41 : decode cX8_greatestDivisor 41 = .ok (.goto (-32), 3) := by decide +kernel
theorem dX8_greatestDivisor_44 : decode cX8_greatestDivisor 44 = .ok (.lload 4, 2) := by decide +kernel
theorem dX8_greatestDivisor_46 : decode cX8_greatestDivisor 46 = .ok (.lreturn, 1) := by decide +kernel
def wtX8_greatestDivisor : List Cond := .code yX8_greatestDivisor cX8_greatestDivisor 11 (some .long) :: (([]) ++ [])
theorem imX8_greatestDivisor_own : ∀ w ∈ ([] : List Cond), w ∈ wtX8_greatestDivisor := fun w h => List.mem_cons_of_mem _ (inl h)
theorem gdX8_greatestDivisor : ∀ w ∈ wtX8_greatestDivisor, Gd w := gdc rfl (gda (gdl (by decide +kernel)) gdn)
def fX8_greatestDivisor_9  : Nat → Int64 → Int64 → Int32 → Option (Int64)
  | 0, _, _, _ => none
  | n + 1, x4, x6, x8 =>
    if (100 : Int32) ≤ x8 then
      some x4
    else
      if (lg_cmp x6 (0 : Int64)) = (0 : Int32) then
        some x4
      else
        nzl x6 (
          fX8_greatestDivisor_9 n x6 (jlrem x4 x6) (x8 + (1 : Int32)))
def fX8_greatestDivisor (x0 : Int64) (x2 : Int64) : Option (Int64) :=
  fX8_greatestDivisor_9 2000 x0 x2 (0 : Int32)
def wdX8_greatestDivisor (cI cZ : ClassId)    : va_W := []
abbrev rmX8_greatestDivisor : Jvm.Room := { frames := 0, cells := 0, slots := 0, locals := 0 }
theorem hyX8_greatestDivisor : yX8_greatestDivisor.cls ≠ "java/lang/invoke/MethodHandle" ∧ yX8_greatestDivisor.cls ≠ "java/lang/invoke/VarHandle" ∧ (parseMethodDescriptor yX8_greatestDivisor.desc).map (fun d => d.parameters.length) = some 2 := by decide +kernel
set_option maxHeartbeats 4000000 in
set_option maxRecDepth 100000 in
theorem mX8_greatestDivisor (l : Launch) (D : va_G) (cI cZ : ClassId) (x0 : Int64) (x2 : Int64) (z : Int64) (hF : fX8_greatestDivisor x0 x2 = some z) : mp l yX8_greatestDivisor wtX8_greatestDivisor rmX8_greatestDivisor D cI cZ [.long x0, .long x2] (wdX8_greatestDivisor cI cZ ) (some (.long z)) (wdX8_greatestDivisor cI cZ ) := by
  refine mp_l (lv0 := [(0, .long x0), (2, .long x2)]) cX8_greatestDivisor 11 z (by decide) rfl (Nat.le_of_ble_eq_true rfl) rfl (fun E h hend0 => ?_)
  have hend : ∀ (z' : Int64), some z' = some z → ∀ (pc : Nat) (lv : List (Nat × Value)), decode cX8_greatestDivisor pc = .ok (.lreturn, 1) → G l D E 11 0 0 (wdX8_greatestDivisor cI cZ ) pc lv [.long z'] := fun z' e => by cases e; exact hend0
  clear hend0
  have hL9 : ∀ (n9 : Nat) (x4 : Int64) (x6 : Int64) (x8 : Int32), fX8_greatestDivisor_9 n9 x4 x6 x8 = some z → G l D E 11 0 0 (wdX8_greatestDivisor cI cZ ) 9 [(4, .long x4), (6, .long x6), (8, .int x8)] [] := by
    intro n9
    induction n9 with
    | zero =>
      intro x4 x6 x8 hF
      rw [fX8_greatestDivisor_9] at hF
      cases hF
    | succ n9 ih9 =>
      intro x4 x6 x8 hF
      rw [fX8_greatestDivisor_9] at hF
      refine g_iload (np := 11) h 2 rfl dX8_greatestDivisor_9 rfl ?_
      refine g_bipush (np := 13) (v := (100 : Int32)) h (by decide) dX8_greatestDivisor_11 rfl ?_
      refine g_icmp_ge h hF dX8_greatestDivisor_13 (np := 16) rfl (tg := 44) rfl (fun c1001 hF => ?_) (fun c1001 hF => ?_)
      · refine g_lload (np := 46) h 0 rfl dX8_greatestDivisor_44 rfl ?_
        exact hend _ hF _ _ dX8_greatestDivisor_46
      · refine g_lload (np := 18) h 1 rfl dX8_greatestDivisor_16 rfl ?_
        refine g_lconst (np := 19) (v := (0 : Int64)) h (by decide) dX8_greatestDivisor_18 rfl ?_
        refine g_lcmp (np := 20) h dX8_greatestDivisor_19 rfl ?_
        refine g_if_eq h hF dX8_greatestDivisor_20 (np := 23) rfl (tg := 44) rfl (fun c1002 hF => ?_) (fun c1002 hF => ?_)
        · refine g_lload (np := 46) h 0 rfl dX8_greatestDivisor_44 rfl ?_
          exact hend _ hF _ _ dX8_greatestDivisor_46
        · refine g_lload (np := 25) h 0 rfl dX8_greatestDivisor_23 rfl ?_
          refine g_lload (np := 27) h 1 rfl dX8_greatestDivisor_25 rfl ?_
          obtain ⟨hz1003, hF⟩ := nzl_e hF
          refine g_lrem (np := 28) h hz1003 dX8_greatestDivisor_27 rfl ?_
          refine g_lstore (np := 30) (lv' := [(9, .long (jlrem x4 x6)), (4, .long x4), (6, .long x6), (8, .int x8)]) h (by decide) rfl dX8_greatestDivisor_28 rfl ?_
          refine g_lload (np := 32) h 2 rfl dX8_greatestDivisor_30 rfl ?_
          refine g_lstore (np := 34) (lv' := [(4, .long x6), (9, .long (jlrem x4 x6)), (6, .long x6), (8, .int x8)]) h (by decide) rfl dX8_greatestDivisor_32 rfl ?_
          refine g_lload (np := 36) h 1 rfl dX8_greatestDivisor_34 rfl ?_
          refine g_lstore (np := 38) (lv' := [(6, .long (jlrem x4 x6)), (4, .long x6), (9, .long (jlrem x4 x6)), (8, .int x8)]) h (by decide) rfl dX8_greatestDivisor_36 rfl ?_
          refine g_iinc (np := 41) (v := (x8 + (1 : Int32))) (lv' := [(8, .int (x8 + (1 : Int32))), (6, .long (jlrem x4 x6)), (4, .long x6), (9, .long (jlrem x4 x6))]) h 3 rfl rfl (by decide) rfl dX8_greatestDivisor_38 rfl ?_
          refine g_goto h dX8_greatestDivisor_41 (np := 9) rfl ?_
          refine g_lv [2, 1, 0] rfl ?_
          exact ih9 x6 (jlrem x4 x6) (x8 + (1 : Int32)) hF
  unfold fX8_greatestDivisor at hF
  refine g_lload_n (np := 1) h 0 rfl rfl dX8_greatestDivisor_0 rfl ?_
  refine g_lstore (np := 3) (lv' := [(4, .long x0), (0, .long x0), (2, .long x2)]) h (by decide) rfl dX8_greatestDivisor_1 rfl ?_
  refine g_lload_n (np := 4) h 2 rfl rfl dX8_greatestDivisor_3 rfl ?_
  refine g_lstore (np := 6) (lv' := [(6, .long x2), (4, .long x0), (0, .long x0), (2, .long x2)]) h (by decide) rfl dX8_greatestDivisor_4 rfl ?_
  refine g_iconst (np := 7) (v := (0 : Int32)) h (by decide) dX8_greatestDivisor_6 rfl ?_
  refine g_istore (np := 9) (lv' := [(8, .int (0 : Int32)), (6, .long x2), (4, .long x0), (0, .long x0), (2, .long x2)]) h (by decide) rfl dX8_greatestDivisor_7 rfl ?_
  refine g_lv [2, 1, 0] rfl ?_
  exact hL9 _ x0 x2 (0 : Int32) hF
theorem dJ6_bitCount_0f7a4_0 : decode cJ6_bitCount_0f7a4 0 = .ok (.iload_n 0, 1) := by decide +kernel
theorem dJ6_bitCount_0f7a4_1 : decode cJ6_bitCount_0f7a4 1 = .ok (.iload_n 0, 1) := by decide +kernel
theorem dJ6_bitCount_0f7a4_2 : decode cJ6_bitCount_0f7a4 2 = .ok (.iconst 1, 1) := by decide +kernel
theorem dJ6_bitCount_0f7a4_3 : decode cJ6_bitCount_0f7a4 3 = .ok (.iushr, 1) := by decide +kernel
theorem dJ6_bitCount_0f7a4_4 : decode cJ6_bitCount_0f7a4 4 = .ok (.ldc_w 265, 3) := by decide +kernel
theorem dJ6_bitCount_0f7a4_7 : decode cJ6_bitCount_0f7a4 7 = .ok (.iand, 1) := by decide +kernel
theorem dJ6_bitCount_0f7a4_8 : decode cJ6_bitCount_0f7a4 8 = .ok (.isub, 1) := by decide +kernel
theorem dJ6_bitCount_0f7a4_9 : decode cJ6_bitCount_0f7a4 9 = .ok (.istore_n 0, 1) := by decide +kernel
theorem dJ6_bitCount_0f7a4_10 : decode cJ6_bitCount_0f7a4 10 = .ok (.iload_n 0, 1) := by decide +kernel
theorem dJ6_bitCount_0f7a4_11 : decode cJ6_bitCount_0f7a4 11 = .ok (.ldc_w 266, 3) := by decide +kernel
theorem dJ6_bitCount_0f7a4_14 : decode cJ6_bitCount_0f7a4 14 = .ok (.iand, 1) := by decide +kernel
theorem dJ6_bitCount_0f7a4_15 : decode cJ6_bitCount_0f7a4 15 = .ok (.iload_n 0, 1) := by decide +kernel
theorem dJ6_bitCount_0f7a4_16 : decode cJ6_bitCount_0f7a4 16 = .ok (.iconst 2, 1) := by decide +kernel
theorem dJ6_bitCount_0f7a4_17 : decode cJ6_bitCount_0f7a4 17 = .ok (.iushr, 1) := by decide +kernel
theorem dJ6_bitCount_0f7a4_18 : decode cJ6_bitCount_0f7a4 18 = .ok (.ldc_w 266, 3) := by decide +kernel
theorem dJ6_bitCount_0f7a4_21 : decode cJ6_bitCount_0f7a4 21 = .ok (.iand, 1) := by decide +kernel
theorem dJ6_bitCount_0f7a4_22 : decode cJ6_bitCount_0f7a4 22 = .ok (.iadd, 1) := by decide +kernel
theorem dJ6_bitCount_0f7a4_23 : decode cJ6_bitCount_0f7a4 23 = .ok (.istore_n 0, 1) := by decide +kernel
theorem dJ6_bitCount_0f7a4_24 : decode cJ6_bitCount_0f7a4 24 = .ok (.iload_n 0, 1) := by decide +kernel
theorem dJ6_bitCount_0f7a4_25 : decode cJ6_bitCount_0f7a4 25 = .ok (.iload_n 0, 1) := by decide +kernel
theorem dJ6_bitCount_0f7a4_26 : decode cJ6_bitCount_0f7a4 26 = .ok (.iconst 4, 1) := by decide +kernel
theorem dJ6_bitCount_0f7a4_27 : decode cJ6_bitCount_0f7a4 27 = .ok (.iushr, 1) := by decide +kernel
theorem dJ6_bitCount_0f7a4_28 : decode cJ6_bitCount_0f7a4 28 = .ok (.iadd, 1) := by decide +kernel
theorem dJ6_bitCount_0f7a4_29 : decode cJ6_bitCount_0f7a4 29 = .ok (.ldc_w 267, 3) := by decide +kernel
theorem dJ6_bitCount_0f7a4_32 : decode cJ6_bitCount_0f7a4 32 = .ok (.iand, 1) := by decide +kernel
theorem dJ6_bitCount_0f7a4_33 : decode cJ6_bitCount_0f7a4 33 = .ok (.istore_n 0, 1) := by decide +kernel
theorem dJ6_bitCount_0f7a4_34 : decode cJ6_bitCount_0f7a4 34 = .ok (.iload_n 0, 1) := by decide +kernel
theorem dJ6_bitCount_0f7a4_35 : decode cJ6_bitCount_0f7a4 35 = .ok (.iload_n 0, 1) := by decide +kernel
theorem dJ6_bitCount_0f7a4_36 : decode cJ6_bitCount_0f7a4 36 = .ok (.bipush 8, 2) := by decide +kernel
theorem dJ6_bitCount_0f7a4_38 : decode cJ6_bitCount_0f7a4 38 = .ok (.iushr, 1) := by decide +kernel
theorem dJ6_bitCount_0f7a4_39 : decode cJ6_bitCount_0f7a4 39 = .ok (.iadd, 1) := by decide +kernel
theorem dJ6_bitCount_0f7a4_40 : decode cJ6_bitCount_0f7a4 40 = .ok (.istore_n 0, 1) := by decide +kernel
theorem dJ6_bitCount_0f7a4_41 : decode cJ6_bitCount_0f7a4 41 = .ok (.iload_n 0, 1) := by decide +kernel
theorem dJ6_bitCount_0f7a4_42 : decode cJ6_bitCount_0f7a4 42 = .ok (.iload_n 0, 1) := by decide +kernel
theorem dJ6_bitCount_0f7a4_43 : decode cJ6_bitCount_0f7a4 43 = .ok (.bipush 16, 2) := by decide +kernel
theorem dJ6_bitCount_0f7a4_45 : decode cJ6_bitCount_0f7a4 45 = .ok (.iushr, 1) := by decide +kernel
theorem dJ6_bitCount_0f7a4_46 : decode cJ6_bitCount_0f7a4 46 = .ok (.iadd, 1) := by decide +kernel
theorem dJ6_bitCount_0f7a4_47 : decode cJ6_bitCount_0f7a4 47 = .ok (.istore_n 0, 1) := by decide +kernel
theorem dJ6_bitCount_0f7a4_48 : decode cJ6_bitCount_0f7a4 48 = .ok (.iload_n 0, 1) := by decide +kernel
theorem dJ6_bitCount_0f7a4_49 : decode cJ6_bitCount_0f7a4 49 = .ok (.bipush 63, 2) := by decide +kernel
theorem dJ6_bitCount_0f7a4_51 : decode cJ6_bitCount_0f7a4 51 = .ok (.iand, 1) := by decide +kernel
theorem dJ6_bitCount_0f7a4_52 : decode cJ6_bitCount_0f7a4 52 = .ok (.ireturn, 1) := by decide +kernel
def wtJ6_bitCount_0f7a4 : List Cond := .code yJ6_bitCount_0f7a4 cJ6_bitCount_0f7a4 1 (some .int) :: (([.constant RJ6 265 (1431655765), .constant RJ6 266 (858993459), .constant RJ6 267 (252645135)]) ++ [])
theorem imJ6_bitCount_0f7a4_own : ∀ w ∈ ([.constant RJ6 265 (1431655765), .constant RJ6 266 (858993459), .constant RJ6 267 (252645135)] : List Cond), w ∈ wtJ6_bitCount_0f7a4 := fun w h => List.mem_cons_of_mem _ (inl h)
theorem gdJ6_bitCount_0f7a4 : ∀ w ∈ wtJ6_bitCount_0f7a4, Gd w := gdc rfl (gda (gdl (by decide +kernel)) gdn)
def fJ6_bitCount_0f7a4 (x0 : Int32) : Option (Int32) :=
  bnd ((x0 - ((jushr x0 (1 : Int32)) &&& (1431655765 : Int32))) &&& (858993459 : Int32)) (fun t1 =>
    bnd (jushr (x0 - ((jushr x0 (1 : Int32)) &&& (1431655765 : Int32))) (2 : Int32)) (fun t2 =>
      bnd ((t1 + (t2 &&& (858993459 : Int32))) + (jushr (t1 + (t2 &&& (858993459 : Int32))) (4 : Int32))) (fun t3 =>
        bnd ((t3 &&& (252645135 : Int32)) + (jushr (t3 &&& (252645135 : Int32)) (8 : Int32))) (fun t4 =>
          some ((t4 + (jushr t4 (16 : Int32))) &&& (63 : Int32))))))
def wdJ6_bitCount_0f7a4 (cI cZ : ClassId)    : va_W := []
abbrev rmJ6_bitCount_0f7a4 : Jvm.Room := { frames := 0, cells := 0, slots := 0, locals := 0 }
theorem hyJ6_bitCount_0f7a4 : yJ6_bitCount_0f7a4.cls ≠ "java/lang/invoke/MethodHandle" ∧ yJ6_bitCount_0f7a4.cls ≠ "java/lang/invoke/VarHandle" ∧ (parseMethodDescriptor yJ6_bitCount_0f7a4.desc).map (fun d => d.parameters.length) = some 1 := by decide +kernel
set_option maxHeartbeats 4000000 in
set_option maxRecDepth 100000 in
theorem mJ6_bitCount_0f7a4 (l : Launch) (D : va_G) (cI cZ : ClassId) (x0 : Int32) (z : Int32) (hF : fJ6_bitCount_0f7a4 x0 = some z) : mp l yJ6_bitCount_0f7a4 wtJ6_bitCount_0f7a4 rmJ6_bitCount_0f7a4 D cI cZ [.int x0] (wdJ6_bitCount_0f7a4 cI cZ ) (some (.int z)) (wdJ6_bitCount_0f7a4 cI cZ ) := by
  refine mp_i (lv0 := [(0, .int x0)]) cJ6_bitCount_0f7a4 1 z (by decide) rfl (Nat.le_of_ble_eq_true rfl) rfl (fun E h hend0 => ?_)
  have hend : ∀ (z' : Int32), some z' = some z → ∀ (pc : Nat) (lv : List (Nat × Value)), decode cJ6_bitCount_0f7a4 pc = .ok (.ireturn, 1) → G l D E 1 0 0 (wdJ6_bitCount_0f7a4 cI cZ ) pc lv [.int z'] := fun z' e => by cases e; exact hend0
  clear hend0
  unfold fJ6_bitCount_0f7a4 at hF
  refine g_iload_n (np := 1) h 0 rfl rfl dJ6_bitCount_0f7a4_0 rfl ?_
  refine g_iload_n (np := 2) h 0 rfl rfl dJ6_bitCount_0f7a4_1 rfl ?_
  refine g_iconst (np := 3) (v := (1 : Int32)) h (by decide) dJ6_bitCount_0f7a4_2 rfl ?_
  refine g_iushr (np := 4) h dJ6_bitCount_0f7a4_3 rfl ?_
  refine g_ldcw (np := 7) (v := (1431655765 : Int32)) h (imJ6_bitCount_0f7a4_own _ (List.mem_of_getElem? (i := 0) rfl)) dJ6_bitCount_0f7a4_4 rfl ?_
  refine g_iand (np := 8) h dJ6_bitCount_0f7a4_7 rfl ?_
  refine g_isub (np := 9) h dJ6_bitCount_0f7a4_8 rfl ?_
  refine g_istore_n (np := 10) (lv' := [(0, .int (x0 - ((jushr x0 (1 : Int32)) &&& (1431655765 : Int32))))]) h rfl (by decide) rfl dJ6_bitCount_0f7a4_9 rfl ?_
  refine g_iload_n (np := 11) h 0 rfl rfl dJ6_bitCount_0f7a4_10 rfl ?_
  refine g_ldcw (np := 14) (v := (858993459 : Int32)) h (imJ6_bitCount_0f7a4_own _ (List.mem_of_getElem? (i := 1) rfl)) dJ6_bitCount_0f7a4_11 rfl ?_
  refine g_iand (np := 15) h dJ6_bitCount_0f7a4_14 rfl ?_
  refine g_top hF (fun t1 et1 hF => ?_)
  refine g_iload_n (np := 16) h 0 rfl rfl dJ6_bitCount_0f7a4_15 rfl ?_
  refine g_iconst (np := 17) (v := (2 : Int32)) h (by decide) dJ6_bitCount_0f7a4_16 rfl ?_
  refine g_iushr (np := 18) h dJ6_bitCount_0f7a4_17 rfl ?_
  refine g_top hF (fun t2 et2 hF => ?_)
  refine g_ldcw (np := 21) (v := (858993459 : Int32)) h (imJ6_bitCount_0f7a4_own _ (List.mem_of_getElem? (i := 1) rfl)) dJ6_bitCount_0f7a4_18 rfl ?_
  refine g_iand (np := 22) h dJ6_bitCount_0f7a4_21 rfl ?_
  refine g_iadd (np := 23) h dJ6_bitCount_0f7a4_22 rfl ?_
  refine g_istore_n (np := 24) (lv' := [(0, .int (t1 + (t2 &&& (858993459 : Int32))))]) h rfl (by decide) rfl dJ6_bitCount_0f7a4_23 rfl ?_
  refine g_iload_n (np := 25) h 0 rfl rfl dJ6_bitCount_0f7a4_24 rfl ?_
  refine g_iload_n (np := 26) h 0 rfl rfl dJ6_bitCount_0f7a4_25 rfl ?_
  refine g_iconst (np := 27) (v := (4 : Int32)) h (by decide) dJ6_bitCount_0f7a4_26 rfl ?_
  refine g_iushr (np := 28) h dJ6_bitCount_0f7a4_27 rfl ?_
  refine g_iadd (np := 29) h dJ6_bitCount_0f7a4_28 rfl ?_
  refine g_top hF (fun t3 et3 hF => ?_)
  refine g_ldcw (np := 32) (v := (252645135 : Int32)) h (imJ6_bitCount_0f7a4_own _ (List.mem_of_getElem? (i := 2) rfl)) dJ6_bitCount_0f7a4_29 rfl ?_
  refine g_iand (np := 33) h dJ6_bitCount_0f7a4_32 rfl ?_
  refine g_istore_n (np := 34) (lv' := [(0, .int (t3 &&& (252645135 : Int32)))]) h rfl (by decide) rfl dJ6_bitCount_0f7a4_33 rfl ?_
  refine g_iload_n (np := 35) h 0 rfl rfl dJ6_bitCount_0f7a4_34 rfl ?_
  refine g_iload_n (np := 36) h 0 rfl rfl dJ6_bitCount_0f7a4_35 rfl ?_
  refine g_bipush (np := 38) (v := (8 : Int32)) h (by decide) dJ6_bitCount_0f7a4_36 rfl ?_
  refine g_iushr (np := 39) h dJ6_bitCount_0f7a4_38 rfl ?_
  refine g_iadd (np := 40) h dJ6_bitCount_0f7a4_39 rfl ?_
  refine g_top hF (fun t4 et4 hF => ?_)
  refine g_istore_n (np := 41) (lv' := [(0, .int t4)]) h rfl (by decide) rfl dJ6_bitCount_0f7a4_40 rfl ?_
  refine g_iload_n (np := 42) h 0 rfl rfl dJ6_bitCount_0f7a4_41 rfl ?_
  refine g_iload_n (np := 43) h 0 rfl rfl dJ6_bitCount_0f7a4_42 rfl ?_
  refine g_bipush (np := 45) (v := (16 : Int32)) h (by decide) dJ6_bitCount_0f7a4_43 rfl ?_
  refine g_iushr (np := 46) h dJ6_bitCount_0f7a4_45 rfl ?_
  refine g_iadd (np := 47) h dJ6_bitCount_0f7a4_46 rfl ?_
  refine g_istore_n (np := 48) (lv' := [(0, .int (t4 + (jushr t4 (16 : Int32))))]) h rfl (by decide) rfl dJ6_bitCount_0f7a4_47 rfl ?_
  refine g_iload_n (np := 49) h 0 rfl rfl dJ6_bitCount_0f7a4_48 rfl ?_
  refine g_bipush (np := 51) (v := (63 : Int32)) h (by decide) dJ6_bitCount_0f7a4_49 rfl ?_
  refine g_iand (np := 52) h dJ6_bitCount_0f7a4_51 rfl ?_
  exact hend _ hF _ _ dJ6_bitCount_0f7a4_52
end
section
theorem dX2_isPieceSign_0 : decode cX2_isPieceSign 0 = .ok (.iload_n 0, 1) := by decide +kernel
theorem dX2_isPieceSign_1 : decode cX2_isPieceSign 1 = .ok (.bipush 48, 2) := by decide +kernel
theorem dX2_isPieceSign_3 : decode cX2_isPieceSign 3 = .ok (.isub, 1) := by decide +kernel
theorem dX2_isPieceSign_4 : decode cX2_isPieceSign 4 = .ok (.invokestatic 34, 3) := by decide +kernel
theorem dX2_isPieceSign_7 : decode cX2_isPieceSign 7 = .ok (.ireturn, 1) := by decide +kernel
def wtX2_isPieceSign : List Cond := .code yX2_isPieceSign cX2_isPieceSign 1 (some .boolean) :: (([.static yX8_isPiece, .initialized RX8]) ++ ((wtX8_isPiece) ++ []))
theorem imX2_isPieceSign_own : ∀ w ∈ ([.static yX8_isPiece, .initialized RX8] : List Cond), w ∈ wtX2_isPieceSign := fun w h => List.mem_cons_of_mem _ (inl h)
theorem imX2_isPieceSign_c_X8_isPiece : ∀ w ∈ (wtX8_isPiece : List Cond), w ∈ wtX2_isPieceSign := fun w h => List.mem_cons_of_mem _ (inr (inl h))
theorem gdX2_isPieceSign : ∀ w ∈ wtX2_isPieceSign, Gd w := gdc rfl (gda (gdl (by decide +kernel)) (gda gdX8_isPiece gdn))
theorem gcX2_isPieceSign_X8_isPiece : GoodIn wtX2_isPieceSign (wtX8_isPiece) := fun w h => ⟨imX2_isPieceSign_c_X8_isPiece w h, gdX8_isPiece w h⟩
def fX2_isPieceSign (x0 : Int32) : Option (Int32) :=
  (fX8_isPiece (x0 - (48 : Int32))).bind (fun r1 =>
    (bz r1).bind (fun r2 =>
      some r2))
def wdX2_isPieceSign (cI cZ : ClassId)    : va_W := []
abbrev rmX2_isPieceSign : Jvm.Room := { frames := 2, cells := 0, slots := 0, locals := 42 }
theorem hyX2_isPieceSign : yX2_isPieceSign.cls ≠ "java/lang/invoke/MethodHandle" ∧ yX2_isPieceSign.cls ≠ "java/lang/invoke/VarHandle" ∧ (parseMethodDescriptor yX2_isPieceSign.desc).map (fun d => d.parameters.length) = some 1 := by decide +kernel
set_option maxHeartbeats 4000000 in
set_option maxRecDepth 100000 in
theorem mX2_isPieceSign (l : Launch) (D : va_G) (cI cZ : ClassId) (x0 : Int32) (z : Int32) (hF : fX2_isPieceSign x0 = some z) : mp l yX2_isPieceSign wtX2_isPieceSign rmX2_isPieceSign D cI cZ [.int x0] (wdX2_isPieceSign cI cZ ) (some (.int z)) (wdX2_isPieceSign cI cZ ) := by
  refine mp_z (lv0 := [(0, .int x0)]) cX2_isPieceSign 1 z (by decide) rfl (Nat.le_of_ble_eq_true rfl) rfl (fun E h hend0 => ?_)
  have hend : ∀ (z' : Int32), some z' = some z → ∀ (pc : Nat) (lv : List (Nat × Value)), z' = z' &&& 1 → decode cX2_isPieceSign pc = .ok (.ireturn, 1) → G l D E 1 0 0 (wdX2_isPieceSign cI cZ ) pc lv [.int z'] := fun z' e => by cases e; exact hend0
  clear hend0
  unfold fX2_isPieceSign at hF
  refine g_iload_n (np := 1) h 0 rfl rfl dX2_isPieceSign_0 rfl ?_
  refine g_bipush (np := 3) (v := (48 : Int32)) h (by decide) dX2_isPieceSign_1 rfl ?_
  refine g_isub (np := 4) h dX2_isPieceSign_3 rfl ?_
  obtain ⟨r1, hr1, hF⟩ := Option.bind_eq_some_iff.mp hF
  refine g_callN (np := 7) (Wd' := (wdX2_isPieceSign cI cZ )) (As := [.int (x0 - (48 : Int32))]) h (mX8_isPiece l D cI cZ (x0 - (48 : Int32)) r1 hr1) gcX2_isPieceSign_X8_isPiece rfl ⟨rfl, rfl⟩ (List.mem_of_getElem? (i := 11) rfl) (imX2_isPieceSign_own _ (List.mem_of_getElem? (i := 1) rfl)) (imX2_isPieceSign_own _ (List.mem_of_getElem? (i := 0) rfl)) hyX8_isPiece rfl rfl rfl rfl ⟨Nat.zero_le _, Nat.zero_le _⟩ [] [] (N := 0) (by decide +kernel) rfl rfl rfl rfl rfl dX2_isPieceSign_4 rfl ?_
  obtain ⟨r2, hr2, hF⟩ := Option.bind_eq_some_iff.mp hF
  obtain ⟨hbr2, her2⟩ := bz_e hr2
  subst her2
  exact hend _ hF _ _ hbr2 dX2_isPieceSign_7
theorem dX2_isHouseSign_0 : decode cX2_isHouseSign 0 = .ok (.iload_n 0, 1) := by decide +kernel
theorem dX2_isHouseSign_1 : decode cX2_isHouseSign 1 = .ok (.bipush 65, 2) := by decide +kernel
theorem dX2_isHouseSign_3 : decode cX2_isHouseSign 3 = .ok (.isub, 1) := by decide +kernel
theorem dX2_isHouseSign_4 : decode cX2_isHouseSign 4 = .ok (.invokestatic 37, 3) := by decide +kernel
theorem dX2_isHouseSign_7 : decode cX2_isHouseSign 7 = .ok (.ireturn, 1) := by decide +kernel
def wtX2_isHouseSign : List Cond := .code yX2_isHouseSign cX2_isHouseSign 1 (some .boolean) :: (([.static yX8_isHouse, .initialized RX8]) ++ ((wtX8_isHouse) ++ []))
theorem imX2_isHouseSign_own : ∀ w ∈ ([.static yX8_isHouse, .initialized RX8] : List Cond), w ∈ wtX2_isHouseSign := fun w h => List.mem_cons_of_mem _ (inl h)
theorem imX2_isHouseSign_c_X8_isHouse : ∀ w ∈ (wtX8_isHouse : List Cond), w ∈ wtX2_isHouseSign := fun w h => List.mem_cons_of_mem _ (inr (inl h))
theorem gdX2_isHouseSign : ∀ w ∈ wtX2_isHouseSign, Gd w := gdc rfl (gda (gdl (by decide +kernel)) (gda gdX8_isHouse gdn))
theorem gcX2_isHouseSign_X8_isHouse : GoodIn wtX2_isHouseSign (wtX8_isHouse) := fun w h => ⟨imX2_isHouseSign_c_X8_isHouse w h, gdX8_isHouse w h⟩
def fX2_isHouseSign (x0 : Int32) : Option (Int32) :=
  (fX8_isHouse (x0 - (65 : Int32))).bind (fun r1 =>
    (bz r1).bind (fun r2 =>
      some r2))
def wdX2_isHouseSign (cI cZ : ClassId)    : va_W := []
abbrev rmX2_isHouseSign : Jvm.Room := { frames := 2, cells := 0, slots := 0, locals := 42 }
theorem hyX2_isHouseSign : yX2_isHouseSign.cls ≠ "java/lang/invoke/MethodHandle" ∧ yX2_isHouseSign.cls ≠ "java/lang/invoke/VarHandle" ∧ (parseMethodDescriptor yX2_isHouseSign.desc).map (fun d => d.parameters.length) = some 1 := by decide +kernel
set_option maxHeartbeats 4000000 in
set_option maxRecDepth 100000 in
theorem mX2_isHouseSign (l : Launch) (D : va_G) (cI cZ : ClassId) (x0 : Int32) (z : Int32) (hF : fX2_isHouseSign x0 = some z) : mp l yX2_isHouseSign wtX2_isHouseSign rmX2_isHouseSign D cI cZ [.int x0] (wdX2_isHouseSign cI cZ ) (some (.int z)) (wdX2_isHouseSign cI cZ ) := by
  refine mp_z (lv0 := [(0, .int x0)]) cX2_isHouseSign 1 z (by decide) rfl (Nat.le_of_ble_eq_true rfl) rfl (fun E h hend0 => ?_)
  have hend : ∀ (z' : Int32), some z' = some z → ∀ (pc : Nat) (lv : List (Nat × Value)), z' = z' &&& 1 → decode cX2_isHouseSign pc = .ok (.ireturn, 1) → G l D E 1 0 0 (wdX2_isHouseSign cI cZ ) pc lv [.int z'] := fun z' e => by cases e; exact hend0
  clear hend0
  unfold fX2_isHouseSign at hF
  refine g_iload_n (np := 1) h 0 rfl rfl dX2_isHouseSign_0 rfl ?_
  refine g_bipush (np := 3) (v := (65 : Int32)) h (by decide) dX2_isHouseSign_1 rfl ?_
  refine g_isub (np := 4) h dX2_isHouseSign_3 rfl ?_
  obtain ⟨r1, hr1, hF⟩ := Option.bind_eq_some_iff.mp hF
  refine g_callN (np := 7) (Wd' := (wdX2_isHouseSign cI cZ )) (As := [.int (x0 - (65 : Int32))]) h (mX8_isHouse l D cI cZ (x0 - (65 : Int32)) r1 hr1) gcX2_isHouseSign_X8_isHouse rfl ⟨rfl, rfl⟩ (List.mem_of_getElem? (i := 10) rfl) (imX2_isHouseSign_own _ (List.mem_of_getElem? (i := 1) rfl)) (imX2_isHouseSign_own _ (List.mem_of_getElem? (i := 0) rfl)) hyX8_isHouse rfl rfl rfl rfl ⟨Nat.zero_le _, Nat.zero_le _⟩ [] [] (N := 0) (by decide +kernel) rfl rfl rfl rfl rfl dX2_isHouseSign_4 rfl ?_
  obtain ⟨r2, hr2, hF⟩ := Option.bind_eq_some_iff.mp hF
  obtain ⟨hbr2, her2⟩ := bz_e hr2
  subst her2
  exact hend _ hF _ _ hbr2 dX2_isHouseSign_7
theorem dX2_dueAfter_0 : decode cX2_dueAfter 0 = .ok (.iload_n 0, 1) := by decide +kernel
theorem dX2_dueAfter_1 : decode cX2_dueAfter 1 = .ok (.ifCond .ne 31, 3) := by decide +kernel
theorem dX2_dueAfter_4 : decode cX2_dueAfter 4 = .ok (.iload_n 1, 1) := by decide +kernel
theorem dX2_dueAfter_5 : decode cX2_dueAfter 5 = .ok (.invokestatic 27, 3) := by decide +kernel
theorem dX2_dueAfter_8 : decode cX2_dueAfter 8 = .ok (.ifCond .eq 5, 3) := by decide +kernel
theorem dX2_dueAfter_11 : decode cX2_dueAfter 11 = .ok (.iconst 1, 1) := by decide +kernel
theorem dX2_dueAfter_12 : decode cX2_dueAfter 12 = .ok (.ireturn, 1) := by decide +kernel
theorem dX2_dueAfter_13 : decode cX2_dueAfter 13 = .ok (.iload_n 1, 1) := by decide +kernel
theorem dX2_dueAfter_14 : decode cX2_dueAfter 14 = .ok (.invokestatic 31, 3) := by decide +kernel
theorem dX2_dueAfter_17 : decode cX2_dueAfter 17 = .ok (.ifCond .ne 9, 3) := by decide +kernel
theorem dX2_dueAfter_20 : decode cX2_dueAfter 20 = .ok (.iload_n 1, 1) := by decide +kernel
theorem dX2_dueAfter_21 : decode cX2_dueAfter 21 = .ok (.bipush 46, 2) := by decide +kernel
theorem dX2_dueAfter_23 : decode cX2_dueAfter 23 = .ok (.if_icmp .ne 7, 3) := by decide +kernel
theorem dX2_dueAfter_26 : decode cX2_dueAfter 26 = .ok (.iconst 0, 1) := by decide +kernel
theorem dX2_dueAfter_27 : decode cX2_dueAfter 27 = .ok (.goto 4, 3) := by decide +kernel
theorem dX2_dueAfter_30 : decode cX2_dueAfter 30 = .ok (.iconst 3, 1) := by decide +kernel
theorem dX2_dueAfter_31 : decode cX2_dueAfter 31 = .ok (.ireturn, 1) := by decide +kernel
theorem dX2_dueAfter_32 : decode cX2_dueAfter 32 = .ok (.iload_n 0, 1) := by decide +kernel
theorem dX2_dueAfter_33 : decode cX2_dueAfter 33 = .ok (.iconst 1, 1) := by decide +kernel
theorem dX2_dueAfter_34 : decode cX2_dueAfter 34 = .ok (.if_icmp .ne 36, 3) := by decide +kernel
theorem dX2_dueAfter_37 : decode cX2_dueAfter 37 = .ok (.iload_n 1, 1) := by decide +kernel
theorem dX2_dueAfter_38 : decode cX2_dueAfter 38 = .ok (.bipush 43, 2) := by decide +kernel
theorem dX2_dueAfter_40 : decode cX2_dueAfter 40 = .ok (.if_icmp .ne 5, 3) := by decide +kernel
theorem dX2_dueAfter_43 : decode cX2_dueAfter 43 = .ok (.iconst 2, 1) := by decide +kernel
theorem dX2_dueAfter_44 : decode cX2_dueAfter 44 = .ok (.ireturn, 1) := by decide +kernel
theorem dX2_dueAfter_45 : decode cX2_dueAfter 45 = .ok (.iload_n 1, 1) := by decide +kernel
theorem dX2_dueAfter_46 : decode cX2_dueAfter 46 = .ok (.invokestatic 31, 3) := by decide +kernel
theorem dX2_dueAfter_49 : decode cX2_dueAfter 49 = .ok (.ifCond .ne 15, 3) := by decide +kernel
theorem dX2_dueAfter_52 : decode cX2_dueAfter 52 = .ok (.iload_n 1, 1) := by decide +kernel
theorem dX2_dueAfter_53 : decode cX2_dueAfter 53 = .ok (.bipush 45, 2) := by decide +kernel
theorem dX2_dueAfter_55 : decode cX2_dueAfter 55 = .ok (.if_icmp .eq 9, 3) := by decide +kernel
theorem dX2_dueAfter_58 : decode cX2_dueAfter 58 = .ok (.iload_n 1, 1) := by decide +kernel
theorem dX2_dueAfter_59 : decode cX2_dueAfter 59 = .ok (.bipush 42, 2) := by decide +kernel
theorem dX2_dueAfter_61 : decode cX2_dueAfter 61 = .ok (.if_icmp .ne 7, 3) := by decide +kernel
theorem dX2_dueAfter_64 : decode cX2_dueAfter 64 = .ok (.iconst 0, 1) := by decide +kernel
theorem dX2_dueAfter_65 : decode cX2_dueAfter 65 = .ok (.goto 4, 3) := by decide +kernel
theorem dX2_dueAfter_68 : decode cX2_dueAfter 68 = .ok (.iconst 3, 1) := by decide +kernel
theorem dX2_dueAfter_69 : decode cX2_dueAfter 69 = .ok (.ireturn, 1) := by decide +kernel
theorem dX2_dueAfter_70 : decode cX2_dueAfter 70 = .ok (.iload_n 1, 1) := by decide +kernel
theorem dX2_dueAfter_71 : decode cX2_dueAfter 71 = .ok (.invokestatic 27, 3) := by decide +kernel
theorem dX2_dueAfter_74 : decode cX2_dueAfter 74 = .ok (.ifCond .eq 7, 3) := by decide +kernel
theorem dX2_dueAfter_77 : decode cX2_dueAfter 77 = .ok (.iconst 0, 1) := by decide +kernel
theorem dX2_dueAfter_78 : decode cX2_dueAfter 78 = .ok (.goto 4, 3) := by decide +kernel
theorem dX2_dueAfter_81 : decode cX2_dueAfter 81 = .ok (.iconst 3, 1) := by decide +kernel
theorem dX2_dueAfter_82 : decode cX2_dueAfter 82 = .ok (.ireturn, 1) := by decide +kernel
def wtX2_dueAfter : List Cond := .code yX2_dueAfter cX2_dueAfter 2 (some .int) :: (([]) ++ ((va_wsS RX2 27 yX2_isHouseSign wtX2_isHouseSign) ++ ((va_wsS RX2 31 yX2_isPieceSign wtX2_isPieceSign) ++ [])))
theorem imX2_dueAfter_own : ∀ w ∈ ([] : List Cond), w ∈ wtX2_dueAfter := fun w h => List.mem_cons_of_mem _ (inl h)
theorem imX2_dueAfter_c_X2_isHouseSign : ∀ w ∈ (va_wsS RX2 27 yX2_isHouseSign wtX2_isHouseSign : List Cond), w ∈ wtX2_dueAfter := fun w h => List.mem_cons_of_mem _ (inr (inl h))
theorem imX2_dueAfter_c_X2_isPieceSign : ∀ w ∈ (va_wsS RX2 31 yX2_isPieceSign wtX2_isPieceSign : List Cond), w ∈ wtX2_dueAfter := fun w h => List.mem_cons_of_mem _ (inr (inr (inl h)))
theorem gdX2_dueAfter : ∀ w ∈ wtX2_dueAfter, Gd w := gdc rfl (gda (gdl (by decide +kernel)) (gda (gda (gdl (by decide +kernel)) gdX2_isHouseSign) (gda (gda (gdl (by decide +kernel)) gdX2_isPieceSign) gdn)))
theorem gcX2_dueAfter_X2_isHouseSign : GoodIn wtX2_dueAfter (va_wsS RX2 27 yX2_isHouseSign wtX2_isHouseSign) := fun w h => ⟨imX2_dueAfter_c_X2_isHouseSign w h, (gda (gdl (by decide +kernel)) gdX2_isHouseSign) w h⟩
theorem gcX2_dueAfter_X2_isPieceSign : GoodIn wtX2_dueAfter (va_wsS RX2 31 yX2_isPieceSign wtX2_isPieceSign) := fun w h => ⟨imX2_dueAfter_c_X2_isPieceSign w h, (gda (gdl (by decide +kernel)) gdX2_isPieceSign) w h⟩
def fX2_dueAfter (x0 : Int32) (x1 : Int32) : Option (Int32) :=
  if x0 = (0 : Int32) then
    (fX2_isHouseSign x1).bind (fun r10 =>
      if r10 = (0 : Int32) then
        (fX2_isPieceSign x1).bind (fun r12 =>
          if r12 = (0 : Int32) then
            if x1 = (46 : Int32) then
              some (0 : Int32)
            else
              some (3 : Int32)
          else
            some (0 : Int32))
      else
        some (1 : Int32))
  else
    if x0 = (1 : Int32) then
      if x1 = (43 : Int32) then
        some (2 : Int32)
      else
        (fX2_isPieceSign x1).bind (fun r6 =>
          if r6 = (0 : Int32) then
            if x1 = (45 : Int32) then
              some (0 : Int32)
            else
              if x1 = (42 : Int32) then
                some (0 : Int32)
              else
                some (3 : Int32)
          else
            some (0 : Int32))
    else
      (fX2_isHouseSign x1).bind (fun r3 =>
        if r3 = (0 : Int32) then
          some (3 : Int32)
        else
          some (0 : Int32))
def wdX2_dueAfter (cI cZ : ClassId)    : va_W := []
abbrev rmX2_dueAfter : Jvm.Room := { frames := 3, cells := 0, slots := 0, locals := 62 }
theorem hyX2_dueAfter : yX2_dueAfter.cls ≠ "java/lang/invoke/MethodHandle" ∧ yX2_dueAfter.cls ≠ "java/lang/invoke/VarHandle" ∧ (parseMethodDescriptor yX2_dueAfter.desc).map (fun d => d.parameters.length) = some 2 := by decide +kernel
set_option maxHeartbeats 4000000 in
set_option maxRecDepth 100000 in
theorem mX2_dueAfter (l : Launch) (D : va_G) (cI cZ : ClassId) (x0 : Int32) (x1 : Int32) (z : Int32) (hF : fX2_dueAfter x0 x1 = some z) : mp l yX2_dueAfter wtX2_dueAfter rmX2_dueAfter D cI cZ [.int x0, .int x1] (wdX2_dueAfter cI cZ ) (some (.int z)) (wdX2_dueAfter cI cZ ) := by
  refine mp_i (lv0 := [(0, .int x0), (1, .int x1)]) cX2_dueAfter 2 z (by decide) rfl (Nat.le_of_ble_eq_true rfl) rfl (fun E h hend0 => ?_)
  have hend : ∀ (z' : Int32), some z' = some z → ∀ (pc : Nat) (lv : List (Nat × Value)), decode cX2_dueAfter pc = .ok (.ireturn, 1) → G l D E 2 0 0 (wdX2_dueAfter cI cZ ) pc lv [.int z'] := fun z' e => by cases e; exact hend0
  clear hend0
  unfold fX2_dueAfter at hF
  refine g_iload_n (np := 1) h 0 rfl rfl dX2_dueAfter_0 rfl ?_
  refine g_if_ne h hF dX2_dueAfter_1 (np := 4) rfl (tg := 32) rfl (fun c1 hF => ?_) (fun c1 hF => ?_)
  · refine g_iload_n (np := 33) h 0 rfl rfl dX2_dueAfter_32 rfl ?_
    refine g_iconst (np := 34) (v := (1 : Int32)) h (by decide) dX2_dueAfter_33 rfl ?_
    refine g_icmp_ne h hF dX2_dueAfter_34 (np := 37) rfl (tg := 70) rfl (fun c2 hF => ?_) (fun c2 hF => ?_)
    · refine g_iload_n (np := 71) h 1 rfl rfl dX2_dueAfter_70 rfl ?_
      obtain ⟨r3, hr3, hF⟩ := Option.bind_eq_some_iff.mp hF
      refine g_callS (np := 74) (Wd' := (wdX2_dueAfter cI cZ )) (As := [.int x1]) h (mX2_isHouseSign l D cI cZ x1 r3 hr3) gcX2_dueAfter_X2_isHouseSign rfl ⟨rfl, rfl⟩ hyX2_isHouseSign rfl rfl rfl rfl ⟨Nat.zero_le _, Nat.zero_le _⟩ [] [] (N := 0) (by decide +kernel) rfl rfl rfl rfl rfl dX2_dueAfter_71 rfl ?_
      refine g_if_eq h hF dX2_dueAfter_74 (np := 77) rfl (tg := 81) rfl (fun c4 hF => ?_) (fun c4 hF => ?_)
      · refine g_iconst (np := 82) (v := (3 : Int32)) h (by decide) dX2_dueAfter_81 rfl ?_
        exact hend _ hF _ _ dX2_dueAfter_82
      · refine g_iconst (np := 78) (v := (0 : Int32)) h (by decide) dX2_dueAfter_77 rfl ?_
        refine g_goto h dX2_dueAfter_78 (np := 82) rfl ?_
        exact hend _ hF _ _ dX2_dueAfter_82
    · refine g_iload_n (np := 38) h 1 rfl rfl dX2_dueAfter_37 rfl ?_
      refine g_bipush (np := 40) (v := (43 : Int32)) h (by decide) dX2_dueAfter_38 rfl ?_
      refine g_icmp_ne h hF dX2_dueAfter_40 (np := 43) rfl (tg := 45) rfl (fun c5 hF => ?_) (fun c5 hF => ?_)
      · refine g_iload_n (np := 46) h 1 rfl rfl dX2_dueAfter_45 rfl ?_
        obtain ⟨r6, hr6, hF⟩ := Option.bind_eq_some_iff.mp hF
        refine g_callS (np := 49) (Wd' := (wdX2_dueAfter cI cZ )) (As := [.int x1]) h (mX2_isPieceSign l D cI cZ x1 r6 hr6) gcX2_dueAfter_X2_isPieceSign rfl ⟨rfl, rfl⟩ hyX2_isPieceSign rfl rfl rfl rfl ⟨Nat.zero_le _, Nat.zero_le _⟩ [] [] (N := 0) (by decide +kernel) rfl rfl rfl rfl rfl dX2_dueAfter_46 rfl ?_
        refine g_if_ne h hF dX2_dueAfter_49 (np := 52) rfl (tg := 64) rfl (fun c7 hF => ?_) (fun c7 hF => ?_)
        · refine g_iconst (np := 65) (v := (0 : Int32)) h (by decide) dX2_dueAfter_64 rfl ?_
          refine g_goto h dX2_dueAfter_65 (np := 69) rfl ?_
          exact hend _ hF _ _ dX2_dueAfter_69
        · refine g_iload_n (np := 53) h 1 rfl rfl dX2_dueAfter_52 rfl ?_
          refine g_bipush (np := 55) (v := (45 : Int32)) h (by decide) dX2_dueAfter_53 rfl ?_
          refine g_icmp_eq h hF dX2_dueAfter_55 (np := 58) rfl (tg := 64) rfl (fun c8 hF => ?_) (fun c8 hF => ?_)
          · refine g_iconst (np := 65) (v := (0 : Int32)) h (by decide) dX2_dueAfter_64 rfl ?_
            refine g_goto h dX2_dueAfter_65 (np := 69) rfl ?_
            exact hend _ hF _ _ dX2_dueAfter_69
          · refine g_iload_n (np := 59) h 1 rfl rfl dX2_dueAfter_58 rfl ?_
            refine g_bipush (np := 61) (v := (42 : Int32)) h (by decide) dX2_dueAfter_59 rfl ?_
            refine g_icmp_ne h hF dX2_dueAfter_61 (np := 64) rfl (tg := 68) rfl (fun c9 hF => ?_) (fun c9 hF => ?_)
            · refine g_iconst (np := 69) (v := (3 : Int32)) h (by decide) dX2_dueAfter_68 rfl ?_
              exact hend _ hF _ _ dX2_dueAfter_69
            · refine g_iconst (np := 65) (v := (0 : Int32)) h (by decide) dX2_dueAfter_64 rfl ?_
              refine g_goto h dX2_dueAfter_65 (np := 69) rfl ?_
              exact hend _ hF _ _ dX2_dueAfter_69
      · refine g_iconst (np := 44) (v := (2 : Int32)) h (by decide) dX2_dueAfter_43 rfl ?_
        exact hend _ hF _ _ dX2_dueAfter_44
  · refine g_iload_n (np := 5) h 1 rfl rfl dX2_dueAfter_4 rfl ?_
    obtain ⟨r10, hr10, hF⟩ := Option.bind_eq_some_iff.mp hF
    refine g_callS (np := 8) (Wd' := (wdX2_dueAfter cI cZ )) (As := [.int x1]) h (mX2_isHouseSign l D cI cZ x1 r10 hr10) gcX2_dueAfter_X2_isHouseSign rfl ⟨rfl, rfl⟩ hyX2_isHouseSign rfl rfl rfl rfl ⟨Nat.zero_le _, Nat.zero_le _⟩ [] [] (N := 0) (by decide +kernel) rfl rfl rfl rfl rfl dX2_dueAfter_5 rfl ?_
    refine g_if_eq h hF dX2_dueAfter_8 (np := 11) rfl (tg := 13) rfl (fun c11 hF => ?_) (fun c11 hF => ?_)
    · refine g_iload_n (np := 14) h 1 rfl rfl dX2_dueAfter_13 rfl ?_
      obtain ⟨r12, hr12, hF⟩ := Option.bind_eq_some_iff.mp hF
      refine g_callS (np := 17) (Wd' := (wdX2_dueAfter cI cZ )) (As := [.int x1]) h (mX2_isPieceSign l D cI cZ x1 r12 hr12) gcX2_dueAfter_X2_isPieceSign rfl ⟨rfl, rfl⟩ hyX2_isPieceSign rfl rfl rfl rfl ⟨Nat.zero_le _, Nat.zero_le _⟩ [] [] (N := 0) (by decide +kernel) rfl rfl rfl rfl rfl dX2_dueAfter_14 rfl ?_
      refine g_if_ne h hF dX2_dueAfter_17 (np := 20) rfl (tg := 26) rfl (fun c13 hF => ?_) (fun c13 hF => ?_)
      · refine g_iconst (np := 27) (v := (0 : Int32)) h (by decide) dX2_dueAfter_26 rfl ?_
        refine g_goto h dX2_dueAfter_27 (np := 31) rfl ?_
        exact hend _ hF _ _ dX2_dueAfter_31
      · refine g_iload_n (np := 21) h 1 rfl rfl dX2_dueAfter_20 rfl ?_
        refine g_bipush (np := 23) (v := (46 : Int32)) h (by decide) dX2_dueAfter_21 rfl ?_
        refine g_icmp_ne h hF dX2_dueAfter_23 (np := 26) rfl (tg := 30) rfl (fun c14 hF => ?_) (fun c14 hF => ?_)
        · refine g_iconst (np := 31) (v := (3 : Int32)) h (by decide) dX2_dueAfter_30 rfl ?_
          exact hend _ hF _ _ dX2_dueAfter_31
        · refine g_iconst (np := 27) (v := (0 : Int32)) h (by decide) dX2_dueAfter_26 rfl ?_
          refine g_goto h dX2_dueAfter_27 (np := 31) rfl ?_
          exact hend _ hF _ _ dX2_dueAfter_31
    · refine g_iconst (np := 12) (v := (1 : Int32)) h (by decide) dX2_dueAfter_11 rfl ?_
      exact hend _ hF _ _ dX2_dueAfter_12
theorem dX2_firstWrong_0 : decode cX2_firstWrong 0 = .ok (.iconst 0, 1) := by decide +kernel
theorem dX2_firstWrong_1 : decode cX2_firstWrong 1 = .ok (.istore_n 1, 1) := by decide +kernel
theorem dX2_firstWrong_2 : decode cX2_firstWrong 2 = .ok (.iconst 0, 1) := by decide +kernel
theorem dX2_firstWrong_3 : decode cX2_firstWrong 3 = .ok (.istore_n 2, 1) := by decide +kernel
theorem dX2_firstWrong_4 : decode cX2_firstWrong 4 = .ok (.iload_n 2, 1) := by decide +kernel
theorem dX2_firstWrong_5 : decode cX2_firstWrong 5 = .ok (.aload_n 0, 1) := by decide +kernel
theorem dX2_firstWrong_6 : decode cX2_firstWrong 6 = .ok (.getfield 15, 3) := by decide +kernel
theorem dX2_firstWrong_9 : decode cX2_firstWrong 9 = .ok (.if_icmp .ge 29, 3) := by decide +kernel
theorem dX2_firstWrong_12 : decode cX2_firstWrong 12 = .ok (.iload_n 1, 1) := by decide +kernel
theorem dX2_firstWrong_13 : decode cX2_firstWrong 13 = .ok (.aload_n 0, 1) := by decide +kernel
theorem dX2_firstWrong_14 : decode cX2_firstWrong 14 = .ok (.getfield 9, 3) := by decide +kernel
theorem dX2_firstWrong_17 : decode cX2_firstWrong 17 = .ok (.iload_n 2, 1) := by decide +kernel
theorem dX2_firstWrong_18 : decode cX2_firstWrong 18 = .ok (.invokestatic 19, 3) := by decide +kernel
theorem dX2_firstWrong_21 : decode cX2_firstWrong 21 = .ok (.invokestatic 23, 3) := by decide +kernel
theorem dX2_firstWrong_24 : decode cX2_firstWrong 24 = .ok (.istore_n 1, 1) := by decide +kernel
theorem dX2_firstWrong_25 : decode cX2_firstWrong 25 = .ok (.iload_n 1, 1) := by decide +kernel
theorem dX2_firstWrong_26 : decode cX2_firstWrong 26 = .ok (.iconst 3, 1) := by decide +kernel
theorem dX2_firstWrong_27 : decode cX2_firstWrong 27 = .ok (.if_icmp .ne 5, 3) := by decide +kernel
theorem dX2_firstWrong_30 : decode cX2_firstWrong 30 = .ok (.iload_n 2, 1) := by decide +kernel
theorem dX2_firstWrong_31 : decode cX2_firstWrong 31 = .ok (.ireturn, 1) := by decide +kernel
theorem dX2_firstWrong_32 : decode cX2_firstWrong 32 = .ok (.iinc 2 1, 3) := by decide +kernel
theorem dX2_firstWrong_35 : decode cX2_firstWrong 35 = .ok (.goto (-31), 3) := by decide +kernel
theorem dX2_firstWrong_38 : decode cX2_firstWrong 38 = .ok (.iload_n 1, 1) := by decide +kernel
theorem dX2_firstWrong_39 : decode cX2_firstWrong 39 = .ok (.ifCond .ne 8, 3) := by decide +kernel
theorem dX2_firstWrong_42 : decode cX2_firstWrong 42 = .ok (.bipush (-6), 2) := by decide +kernel
theorem dX2_firstWrong_44 : decode cX2_firstWrong 44 = .ok (.goto 7, 3) := by decide +kernel
theorem dX2_firstWrong_47 : decode cX2_firstWrong 47 = .ok (.aload_n 0, 1) := by decide +kernel
theorem dX2_firstWrong_48 : decode cX2_firstWrong 48 = .ok (.getfield 15, 3) := by decide +kernel
theorem dX2_firstWrong_51 : decode cX2_firstWrong 51 = .ok (.ireturn, 1) := by decide +kernel
def wtX2_firstWrong : List Cond := .code yX2_firstWrong cX2_firstWrong 3 (some .int) :: (([.fieldLink RX2 15 "DriftKin$Pad" "count" "I", .fieldLink RX2 9 "DriftKin$Pad" "signs" "[I", .static yX8_at, .initialized RX8]) ++ ((u_ws RX2 TX2 2) ++ ((wtX8_at) ++ ((va_wsS RX2 23 yX2_dueAfter wtX2_dueAfter) ++ []))))
theorem imX2_firstWrong_own : ∀ w ∈ ([.fieldLink RX2 15 "DriftKin$Pad" "count" "I", .fieldLink RX2 9 "DriftKin$Pad" "signs" "[I", .static yX8_at, .initialized RX8] : List Cond), w ∈ wtX2_firstWrong := fun w h => List.mem_cons_of_mem _ (inl h)
theorem imX2_firstWrong_u_X2 : ∀ w ∈ (u_ws RX2 TX2 2 : List Cond), w ∈ wtX2_firstWrong := fun w h => List.mem_cons_of_mem _ (inr (inl h))
theorem imX2_firstWrong_c_X8_at : ∀ w ∈ (wtX8_at : List Cond), w ∈ wtX2_firstWrong := fun w h => List.mem_cons_of_mem _ (inr (inr (inl h)))
theorem imX2_firstWrong_c_X2_dueAfter : ∀ w ∈ (va_wsS RX2 23 yX2_dueAfter wtX2_dueAfter : List Cond), w ∈ wtX2_firstWrong := fun w h => List.mem_cons_of_mem _ (inr (inr (inr (inl h))))
theorem gdX2_firstWrong : ∀ w ∈ wtX2_firstWrong, Gd w := gdc rfl (gda (gdl (by decide +kernel)) (gda (gdu _ _ _) (gda gdX8_at (gda (gda (gdl (by decide +kernel)) gdX2_dueAfter) gdn))))
theorem gcX2_firstWrong_X8_at : GoodIn wtX2_firstWrong (wtX8_at) := fun w h => ⟨imX2_firstWrong_c_X8_at w h, gdX8_at w h⟩
theorem gcX2_firstWrong_X2_dueAfter : GoodIn wtX2_firstWrong (va_wsS RX2 23 yX2_dueAfter wtX2_dueAfter) := fun w h => ⟨imX2_firstWrong_c_X2_dueAfter w h, (gda (gdl (by decide +kernel)) gdX2_dueAfter) w h⟩
def fX2_firstWrong_4 (v_count : Int32) (v_signs : Nat → Int32) : Nat → Int32 → Int32 → Option (Int32)
  | 0, _, _ => none
  | n + 1, x1, x2 =>
    if v_count ≤ x2 then
      if x1 = (0 : Int32) then
        some (-6 : Int32)
      else
        some v_count
    else
      (fX8_at 60 v_signs x2).bind (fun r1003 =>
        (fX2_dueAfter x1 r1003).bind (fun r1004 =>
          if r1004 = (3 : Int32) then
            some x2
          else
            fX2_firstWrong_4 v_count v_signs n r1004 (x2 + (1 : Int32))))
def fX2_firstWrong (v_count : Int32) (v_signs : Nat → Int32) : Option (Int32) :=
  fX2_firstWrong_4 v_count v_signs 2000 (0 : Int32) (0 : Int32)
def wdX2_firstWrong (cI cZ : ClassId) (q0 : Nat) (q1 : Nat)  (v_count : Int32) (v_signs : Nat → Int32) : va_W := [(q0, .inr (2, [.ref q1, .int v_count])), (q1, .inl (cI, 60, .inl v_signs))]
abbrev rmX2_firstWrong : Jvm.Room := { frames := 4, cells := 0, slots := 0, locals := 83 }
theorem hyX2_firstWrong : yX2_firstWrong.cls ≠ "java/lang/invoke/MethodHandle" ∧ yX2_firstWrong.cls ≠ "java/lang/invoke/VarHandle" ∧ (parseMethodDescriptor yX2_firstWrong.desc).map (fun d => d.parameters.length) = some 0 := by decide +kernel
set_option maxHeartbeats 4000000 in
set_option maxRecDepth 100000 in
theorem mX2_firstWrong (l : Launch) (D : va_G) (cI cZ : ClassId) (q0 : Nat) (q1 : Nat) (v_count : Int32) (v_signs : Nat → Int32) (z : Int32) (hF : fX2_firstWrong v_count v_signs = some z) : mp l yX2_firstWrong wtX2_firstWrong rmX2_firstWrong D cI cZ [.ref q0] (wdX2_firstWrong cI cZ q0 q1 v_count v_signs) (some (.int z)) (wdX2_firstWrong cI cZ q0 q1 v_count v_signs) := by
  refine mp_i (lv0 := [(0, .ref q0)]) cX2_firstWrong 3 z (by decide) rfl (Nat.le_of_ble_eq_true rfl) rfl (fun E h hend0 => ?_)
  have hend : ∀ (z' : Int32), some z' = some z → ∀ (pc : Nat) (lv : List (Nat × Value)), decode cX2_firstWrong pc = .ok (.ireturn, 1) → G l D E 3 0 0 (wdX2_firstWrong cI cZ q0 q1 v_count v_signs) pc lv [.int z'] := fun z' e => by cases e; exact hend0
  clear hend0
  have hL4 : ∀ (n4 : Nat) (x1 : Int32) (x2 : Int32), fX2_firstWrong_4 v_count v_signs n4 x1 x2 = some z → G l D E 3 0 0 (wdX2_firstWrong cI cZ q0 q1 v_count v_signs) 4 [(0, .ref q0), (1, .int x1), (2, .int x2)] [] := by
    intro n4
    induction n4 with
    | zero =>
      intro x1 x2 hF
      rw [fX2_firstWrong_4] at hF
      cases hF
    | succ n4 ih4 =>
      intro x1 x2 hF
      rw [fX2_firstWrong_4] at hF
      refine g_iload_n (np := 5) h 2 rfl rfl dX2_firstWrong_4 rfl ?_
      refine g_aload_n (np := 6) h 0 rfl rfl dX2_firstWrong_5 rfl ?_
      refine g_get (np := 9) (T := TX2) h imX2_firstWrong_u_X2 0 2 rfl rfl 1 (by decide) (imX2_firstWrong_own _ (List.mem_of_getElem? (i := 0) rfl)) rfl dX2_firstWrong_6 rfl ?_
      refine g_icmp_ge h hF dX2_firstWrong_9 (np := 12) rfl (tg := 38) rfl (fun c1001 hF => ?_) (fun c1001 hF => ?_)
      · refine g_iload_n (np := 39) h 1 rfl rfl dX2_firstWrong_38 rfl ?_
        refine g_if_ne h hF dX2_firstWrong_39 (np := 42) rfl (tg := 47) rfl (fun c1002 hF => ?_) (fun c1002 hF => ?_)
        · refine g_aload_n (np := 48) h 0 rfl rfl dX2_firstWrong_47 rfl ?_
          refine g_get (np := 51) (T := TX2) h imX2_firstWrong_u_X2 0 2 rfl rfl 1 (by decide) (imX2_firstWrong_own _ (List.mem_of_getElem? (i := 0) rfl)) rfl dX2_firstWrong_48 rfl ?_
          exact hend _ hF _ _ dX2_firstWrong_51
        · refine g_bipush (np := 44) (v := (-6 : Int32)) h (by decide) dX2_firstWrong_42 rfl ?_
          refine g_goto h dX2_firstWrong_44 (np := 51) rfl ?_
          exact hend _ hF _ _ dX2_firstWrong_51
      · refine g_iload_n (np := 13) h 1 rfl rfl dX2_firstWrong_12 rfl ?_
        refine g_aload_n (np := 14) h 0 rfl rfl dX2_firstWrong_13 rfl ?_
        refine g_get (np := 17) (T := TX2) h imX2_firstWrong_u_X2 0 2 rfl rfl 0 (by decide) (imX2_firstWrong_own _ (List.mem_of_getElem? (i := 1) rfl)) rfl dX2_firstWrong_14 rfl ?_
        refine g_iload_n (np := 18) h 2 rfl rfl dX2_firstWrong_17 rfl ?_
        obtain ⟨r1003, hr1003, hF⟩ := Option.bind_eq_some_iff.mp hF
        refine g_callN (np := 21) (Wd' := (wdX2_firstWrong cI cZ q0 q1 v_count v_signs)) (As := [.ref q1, .int x2]) h (mX8_at l D cI cZ q1 60 v_signs x2 r1003 hr1003) gcX2_firstWrong_X8_at rfl ⟨rfl, rfl⟩ (List.mem_of_getElem? (i := 9) rfl) (imX2_firstWrong_own _ (List.mem_of_getElem? (i := 3) rfl)) (imX2_firstWrong_own _ (List.mem_of_getElem? (i := 2) rfl)) hyX8_at rfl rfl rfl rfl ⟨Nat.zero_le _, Nat.zero_le _⟩ [1] [0] (N := 2) (by decide +kernel) rfl rfl rfl rfl rfl dX2_firstWrong_18 rfl ?_
        obtain ⟨r1004, hr1004, hF⟩ := Option.bind_eq_some_iff.mp hF
        refine g_callS (np := 24) (Wd' := (wdX2_firstWrong cI cZ q0 q1 v_count v_signs)) (As := [.int x1, .int r1003]) h (mX2_dueAfter l D cI cZ x1 r1003 r1004 hr1004) gcX2_firstWrong_X2_dueAfter rfl ⟨rfl, rfl⟩ hyX2_dueAfter rfl rfl rfl rfl ⟨Nat.zero_le _, Nat.zero_le _⟩ [] [0, 1] (N := 2) (by decide +kernel) rfl rfl rfl rfl rfl dX2_firstWrong_21 rfl ?_
        refine g_istore_n (np := 25) (lv' := [(1, .int r1004), (0, .ref q0), (2, .int x2)]) h rfl (by decide) rfl dX2_firstWrong_24 rfl ?_
        refine g_iload_n (np := 26) h 0 rfl rfl dX2_firstWrong_25 rfl ?_
        refine g_iconst (np := 27) (v := (3 : Int32)) h (by decide) dX2_firstWrong_26 rfl ?_
        refine g_icmp_ne h hF dX2_firstWrong_27 (np := 30) rfl (tg := 32) rfl (fun c1005 hF => ?_) (fun c1005 hF => ?_)
        · refine g_iinc (np := 35) (v := (x2 + (1 : Int32))) (lv' := [(2, .int (x2 + (1 : Int32))), (1, .int r1004), (0, .ref q0)]) h 2 rfl rfl (by decide) rfl dX2_firstWrong_32 rfl ?_
          refine g_goto h dX2_firstWrong_35 (np := 4) rfl ?_
          refine g_lv [2, 1, 0] rfl ?_
          exact ih4 r1004 (x2 + (1 : Int32)) hF
        · refine g_iload_n (np := 31) h 2 rfl rfl dX2_firstWrong_30 rfl ?_
          exact hend _ hF _ _ dX2_firstWrong_31
  unfold fX2_firstWrong at hF
  refine g_iconst (np := 1) (v := (0 : Int32)) h (by decide) dX2_firstWrong_0 rfl ?_
  refine g_istore_n (np := 2) (lv' := [(1, .int (0 : Int32)), (0, .ref q0)]) h rfl (by decide) rfl dX2_firstWrong_1 rfl ?_
  refine g_iconst (np := 3) (v := (0 : Int32)) h (by decide) dX2_firstWrong_2 rfl ?_
  refine g_istore_n (np := 4) (lv' := [(2, .int (0 : Int32)), (1, .int (0 : Int32)), (0, .ref q0)]) h rfl (by decide) rfl dX2_firstWrong_3 rfl ?_
  refine g_lv [2, 1, 0] rfl ?_
  exact hL4 _ (0 : Int32) (0 : Int32) hF
theorem dX0_become_0 : decode cX0_become 0 = .ok (.aload_n 1, 1) := by decide +kernel
theorem dX0_become_1 : decode cX0_become 1 = .ok (.getfield 9, 3) := by decide +kernel
theorem dX0_become_4 : decode cX0_become 4 = .ok (.aload_n 0, 1) := by decide +kernel
theorem dX0_become_5 : decode cX0_become 5 = .ok (.getfield 9, 3) := by decide +kernel
theorem dX0_become_8 : decode cX0_become 8 = .ok (.invokestatic 25, 3) := by decide +kernel
theorem dX0_become_11 : decode cX0_become 11 = .ok (.aload_n 1, 1) := by decide +kernel
theorem dX0_become_12 : decode cX0_become 12 = .ok (.getfield 15, 3) := by decide +kernel
theorem dX0_become_15 : decode cX0_become 15 = .ok (.aload_n 0, 1) := by decide +kernel
theorem dX0_become_16 : decode cX0_become 16 = .ok (.getfield 15, 3) := by decide +kernel
theorem dX0_become_19 : decode cX0_become 19 = .ok (.invokestatic 25, 3) := by decide +kernel
theorem dX0_become_22 : decode cX0_become 22 = .ok (.aload_n 1, 1) := by decide +kernel
theorem dX0_become_23 : decode cX0_become 23 = .ok (.getfield 18, 3) := by decide +kernel
theorem dX0_become_26 : decode cX0_become 26 = .ok (.aload_n 0, 1) := by decide +kernel
theorem dX0_become_27 : decode cX0_become 27 = .ok (.getfield 18, 3) := by decide +kernel
theorem dX0_become_30 : decode cX0_become 30 = .ok (.invokestatic 25, 3) := by decide +kernel
theorem dX0_become_33 : decode cX0_become 33 = .ok (.return_, 1) := by decide +kernel
def wtX0_become : List Cond := .code yX0_become cX0_become 2 none :: (([.fieldLink RX0 9 "DriftKin$Houses" "piece" "[I", .static yX8_copy, .initialized RX8, .fieldLink RX0 15 "DriftKin$Houses" "partner" "[I", .fieldLink RX0 18 "DriftKin$Houses" "children" "[I"]) ++ ((u_ws RX0 TX0 3) ++ ((wtX8_copy) ++ [])))
theorem imX0_become_own : ∀ w ∈ ([.fieldLink RX0 9 "DriftKin$Houses" "piece" "[I", .static yX8_copy, .initialized RX8, .fieldLink RX0 15 "DriftKin$Houses" "partner" "[I", .fieldLink RX0 18 "DriftKin$Houses" "children" "[I"] : List Cond), w ∈ wtX0_become := fun w h => List.mem_cons_of_mem _ (inl h)
theorem imX0_become_u_X0 : ∀ w ∈ (u_ws RX0 TX0 3 : List Cond), w ∈ wtX0_become := fun w h => List.mem_cons_of_mem _ (inr (inl h))
theorem imX0_become_c_X8_copy : ∀ w ∈ (wtX8_copy : List Cond), w ∈ wtX0_become := fun w h => List.mem_cons_of_mem _ (inr (inr (inl h)))
theorem gdX0_become : ∀ w ∈ wtX0_become, Gd w := gdc rfl (gda (gdl (by decide +kernel)) (gda (gdu _ _ _) (gda gdX8_copy gdn)))
theorem gcX0_become_X8_copy : GoodIn wtX0_become (wtX8_copy) := fun w h => ⟨imX0_become_c_X8_copy w h, gdX8_copy w h⟩
def fX0_become (v_piece : Nat → Int32) (v_partner : Nat → Int32) (v_children : Nat → Int32) (v_piece2 : Nat → Int32) (v_partner2 : Nat → Int32) (v_children2 : Nat → Int32) : Option ((Nat → Int32) × (Nat → Int32) × (Nat → Int32)) :=
  (fX8_copy 8 8 v_piece2 v_piece).bind (fun r1 =>
    (fX8_copy 8 8 v_partner2 v_partner).bind (fun r2 =>
      (fX8_copy 8 8 v_children2 v_children).bind (fun r3 =>
        some (r1, r2, r3))))
def wdX0_become (cI cZ : ClassId) (q0 : Nat) (q1 : Nat) (q2 : Nat) (q3 : Nat) (q4 : Nat) (q5 : Nat) (q6 : Nat) (q7 : Nat)  (v_piece : Nat → Int32) (v_partner : Nat → Int32) (v_children : Nat → Int32) (v_piece2 : Nat → Int32) (v_partner2 : Nat → Int32) (v_children2 : Nat → Int32) : va_W := [(q0, .inr (0, [.ref q1, .ref q2, .ref q3])), (q1, .inl (cI, 8, .inl v_piece)), (q2, .inl (cI, 8, .inl v_partner)), (q3, .inl (cI, 8, .inl v_children)), (q4, .inr (0, [.ref q5, .ref q6, .ref q7])), (q5, .inl (cI, 8, .inl v_piece2)), (q6, .inl (cI, 8, .inl v_partner2)), (q7, .inl (cI, 8, .inl v_children2))]
abbrev rmX0_become : Jvm.Room := { frames := 1, cells := 0, slots := 0, locals := 22 }
theorem hyX0_become : yX0_become.cls ≠ "java/lang/invoke/MethodHandle" ∧ yX0_become.cls ≠ "java/lang/invoke/VarHandle" ∧ (parseMethodDescriptor yX0_become.desc).map (fun d => d.parameters.length) = some 1 := by decide +kernel
set_option maxHeartbeats 4000000 in
set_option maxRecDepth 100000 in
theorem mX0_become (l : Launch) (D : va_G) (cI cZ : ClassId) (q0 : Nat) (q1 : Nat) (q2 : Nat) (q3 : Nat) (q4 : Nat) (q5 : Nat) (q6 : Nat) (q7 : Nat) (v_piece : Nat → Int32) (v_partner : Nat → Int32) (v_children : Nat → Int32) (v_piece2 : Nat → Int32) (v_partner2 : Nat → Int32) (v_children2 : Nat → Int32) (z : (Nat → Int32) × (Nat → Int32) × (Nat → Int32)) (hF : fX0_become v_piece v_partner v_children v_piece2 v_partner2 v_children2 = some z) : mp l yX0_become wtX0_become rmX0_become D cI cZ [.ref q0, .ref q4] (wdX0_become cI cZ q0 q1 q2 q3 q4 q5 q6 q7 v_piece v_partner v_children v_piece2 v_partner2 v_children2) none (wdX0_become cI cZ q0 q1 q2 q3 q4 q5 q6 q7 z.1 z.2.1 z.2.2 v_piece2 v_partner2 v_children2) := by
  refine mp_v (lv0 := [(0, .ref q0), (1, .ref q4)]) cX0_become 2 (by decide) rfl (Nat.le_of_ble_eq_true rfl) rfl (fun E h hend0 => ?_)
  have hend : ∀ (z' : (Nat → Int32) × (Nat → Int32) × (Nat → Int32)), some z' = some z → ∀ (pc : Nat) (lv : List (Nat × Value)), decode cX0_become pc = .ok (.return_, 1) → G l D E 2 0 0 (wdX0_become cI cZ q0 q1 q2 q3 q4 q5 q6 q7 (z'.1) (z'.2.1) (z'.2.2) v_piece2 v_partner2 v_children2) pc lv [] := fun z' e => by cases e; exact hend0
  clear hend0
  unfold fX0_become at hF
  refine g_aload_n (np := 1) h 1 rfl rfl dX0_become_0 rfl ?_
  refine g_get (np := 4) (T := TX0) h imX0_become_u_X0 4 0 rfl rfl 0 (by decide) (imX0_become_own _ (List.mem_of_getElem? (i := 0) rfl)) rfl dX0_become_1 rfl ?_
  refine g_aload_n (np := 5) h 0 rfl rfl dX0_become_4 rfl ?_
  refine g_get (np := 8) (T := TX0) h imX0_become_u_X0 0 0 rfl rfl 0 (by decide) (imX0_become_own _ (List.mem_of_getElem? (i := 0) rfl)) rfl dX0_become_5 rfl ?_
  obtain ⟨r1, hr1, hF⟩ := Option.bind_eq_some_iff.mp hF
  refine g_callN (np := 11) (Wd' := (wdX0_become cI cZ q0 q1 q2 q3 q4 q5 q6 q7 r1 v_partner v_children v_piece2 v_partner2 v_children2)) (As := [.ref q5, .ref q1]) h (mX8_copy l D cI cZ q5 q1 8 8 v_piece2 v_piece r1 hr1) gcX0_become_X8_copy rfl ⟨rfl, rfl⟩ (List.mem_of_getElem? (i := 13) rfl) (imX0_become_own _ (List.mem_of_getElem? (i := 2) rfl)) (imX0_become_own _ (List.mem_of_getElem? (i := 1) rfl)) hyX8_copy rfl rfl rfl rfl ⟨Nat.zero_le _, Nat.zero_le _⟩ [5, 1] [0, 2, 3, 4, 6, 7] (N := 8) (by decide +kernel) rfl rfl rfl rfl rfl dX0_become_8 rfl ?_
  refine g_aload_n (np := 12) h 1 rfl rfl dX0_become_11 rfl ?_
  refine g_get (np := 15) (T := TX0) h imX0_become_u_X0 4 0 rfl rfl 1 (by decide) (imX0_become_own _ (List.mem_of_getElem? (i := 3) rfl)) rfl dX0_become_12 rfl ?_
  refine g_aload_n (np := 16) h 0 rfl rfl dX0_become_15 rfl ?_
  refine g_get (np := 19) (T := TX0) h imX0_become_u_X0 0 0 rfl rfl 1 (by decide) (imX0_become_own _ (List.mem_of_getElem? (i := 3) rfl)) rfl dX0_become_16 rfl ?_
  obtain ⟨r2, hr2, hF⟩ := Option.bind_eq_some_iff.mp hF
  refine g_callN (np := 22) (Wd' := (wdX0_become cI cZ q0 q1 q2 q3 q4 q5 q6 q7 r1 r2 v_children v_piece2 v_partner2 v_children2)) (As := [.ref q6, .ref q2]) h (mX8_copy l D cI cZ q6 q2 8 8 v_partner2 v_partner r2 hr2) gcX0_become_X8_copy rfl ⟨rfl, rfl⟩ (List.mem_of_getElem? (i := 13) rfl) (imX0_become_own _ (List.mem_of_getElem? (i := 2) rfl)) (imX0_become_own _ (List.mem_of_getElem? (i := 1) rfl)) hyX8_copy rfl rfl rfl rfl ⟨Nat.zero_le _, Nat.zero_le _⟩ [6, 2] [0, 1, 3, 4, 5, 7] (N := 8) (by decide +kernel) rfl rfl rfl rfl rfl dX0_become_19 rfl ?_
  refine g_aload_n (np := 23) h 1 rfl rfl dX0_become_22 rfl ?_
  refine g_get (np := 26) (T := TX0) h imX0_become_u_X0 4 0 rfl rfl 2 (by decide) (imX0_become_own _ (List.mem_of_getElem? (i := 4) rfl)) rfl dX0_become_23 rfl ?_
  refine g_aload_n (np := 27) h 0 rfl rfl dX0_become_26 rfl ?_
  refine g_get (np := 30) (T := TX0) h imX0_become_u_X0 0 0 rfl rfl 2 (by decide) (imX0_become_own _ (List.mem_of_getElem? (i := 4) rfl)) rfl dX0_become_27 rfl ?_
  obtain ⟨r3, hr3, hF⟩ := Option.bind_eq_some_iff.mp hF
  refine g_callN (np := 33) (Wd' := (wdX0_become cI cZ q0 q1 q2 q3 q4 q5 q6 q7 r1 r2 r3 v_piece2 v_partner2 v_children2)) (As := [.ref q7, .ref q3]) h (mX8_copy l D cI cZ q7 q3 8 8 v_children2 v_children r3 hr3) gcX0_become_X8_copy rfl ⟨rfl, rfl⟩ (List.mem_of_getElem? (i := 13) rfl) (imX0_become_own _ (List.mem_of_getElem? (i := 2) rfl)) (imX0_become_own _ (List.mem_of_getElem? (i := 1) rfl)) hyX8_copy rfl rfl rfl rfl ⟨Nat.zero_le _, Nat.zero_le _⟩ [7, 3] [0, 1, 2, 4, 5, 6] (N := 8) (by decide +kernel) rfl rfl rfl rfl rfl dX0_become_30 rfl ?_
  exact hend _ hF _ _ dX0_become_33
theorem dX0_detail_0 : decode cX0_detail 0 = .ok (.iload_n 2, 1) := by decide +kernel
theorem dX0_detail_1 : decode cX0_detail 1 = .ok (.ifCond .ne 12, 3) := by decide +kernel
theorem dX0_detail_4 : decode cX0_detail 4 = .ok (.aload_n 0, 1) := by decide +kernel
theorem dX0_detail_5 : decode cX0_detail 5 = .ok (.getfield 9, 3) := by decide +kernel
theorem dX0_detail_8 : decode cX0_detail 8 = .ok (.iload_n 1, 1) := by decide +kernel
theorem dX0_detail_9 : decode cX0_detail 9 = .ok (.invokestatic 29, 3) := by decide +kernel
theorem dX0_detail_12 : decode cX0_detail 12 = .ok (.ireturn, 1) := by decide +kernel
theorem dX0_detail_13 : decode cX0_detail 13 = .ok (.iload_n 2, 1) := by decide +kernel
theorem dX0_detail_14 : decode cX0_detail 14 = .ok (.iconst 1, 1) := by decide +kernel
theorem dX0_detail_15 : decode cX0_detail 15 = .ok (.if_icmp .ne 14, 3) := by decide +kernel
theorem dX0_detail_18 : decode cX0_detail 18 = .ok (.aload_n 0, 1) := by decide +kernel
theorem dX0_detail_19 : decode cX0_detail 19 = .ok (.getfield 15, 3) := by decide +kernel
theorem dX0_detail_22 : decode cX0_detail 22 = .ok (.iload_n 1, 1) := by decide +kernel
theorem dX0_detail_23 : decode cX0_detail 23 = .ok (.invokestatic 29, 3) := by decide +kernel
theorem dX0_detail_26 : decode cX0_detail 26 = .ok (.goto 11, 3) := by decide +kernel
theorem dX0_detail_29 : decode cX0_detail 29 = .ok (.aload_n 0, 1) := by decide +kernel
theorem dX0_detail_30 : decode cX0_detail 30 = .ok (.getfield 18, 3) := by decide +kernel
theorem dX0_detail_33 : decode cX0_detail 33 = .ok (.iload_n 1, 1) := by decide +kernel
theorem dX0_detail_34 : decode cX0_detail 34 = .ok (.invokestatic 29, 3) := by decide +kernel
theorem dX0_detail_37 : decode cX0_detail 37 = .ok (.ireturn, 1) := by decide +kernel
def wtX0_detail : List Cond := .code yX0_detail cX0_detail 3 (some .int) :: (([.fieldLink RX0 9 "DriftKin$Houses" "piece" "[I", .static yX8_at, .initialized RX8, .fieldLink RX0 15 "DriftKin$Houses" "partner" "[I", .fieldLink RX0 18 "DriftKin$Houses" "children" "[I"]) ++ ((u_ws RX0 TX0 3) ++ ((wtX8_at) ++ [])))
theorem imX0_detail_own : ∀ w ∈ ([.fieldLink RX0 9 "DriftKin$Houses" "piece" "[I", .static yX8_at, .initialized RX8, .fieldLink RX0 15 "DriftKin$Houses" "partner" "[I", .fieldLink RX0 18 "DriftKin$Houses" "children" "[I"] : List Cond), w ∈ wtX0_detail := fun w h => List.mem_cons_of_mem _ (inl h)
theorem imX0_detail_u_X0 : ∀ w ∈ (u_ws RX0 TX0 3 : List Cond), w ∈ wtX0_detail := fun w h => List.mem_cons_of_mem _ (inr (inl h))
theorem imX0_detail_c_X8_at : ∀ w ∈ (wtX8_at : List Cond), w ∈ wtX0_detail := fun w h => List.mem_cons_of_mem _ (inr (inr (inl h)))
theorem gdX0_detail : ∀ w ∈ wtX0_detail, Gd w := gdc rfl (gda (gdl (by decide +kernel)) (gda (gdu _ _ _) (gda gdX8_at gdn)))
theorem gcX0_detail_X8_at : GoodIn wtX0_detail (wtX8_at) := fun w h => ⟨imX0_detail_c_X8_at w h, gdX8_at w h⟩
def fX0_detail (v_piece : Nat → Int32) (v_partner : Nat → Int32) (v_children : Nat → Int32) (x1 : Int32) (x2 : Int32) : Option (Int32) :=
  if x2 = (0 : Int32) then
    (fX8_at 8 v_piece x1).bind (fun r5 =>
      some r5)
  else
    if x2 = (1 : Int32) then
      (fX8_at 8 v_partner x1).bind (fun r4 =>
        some r4)
    else
      (fX8_at 8 v_children x1).bind (fun r3 =>
        some r3)
def wdX0_detail (cI cZ : ClassId) (q0 : Nat) (q1 : Nat) (q2 : Nat) (q3 : Nat)  (v_piece : Nat → Int32) (v_partner : Nat → Int32) (v_children : Nat → Int32) : va_W := [(q0, .inr (0, [.ref q1, .ref q2, .ref q3])), (q1, .inl (cI, 8, .inl v_piece)), (q2, .inl (cI, 8, .inl v_partner)), (q3, .inl (cI, 8, .inl v_children))]
abbrev rmX0_detail : Jvm.Room := { frames := 1, cells := 0, slots := 0, locals := 21 }
theorem hyX0_detail : yX0_detail.cls ≠ "java/lang/invoke/MethodHandle" ∧ yX0_detail.cls ≠ "java/lang/invoke/VarHandle" ∧ (parseMethodDescriptor yX0_detail.desc).map (fun d => d.parameters.length) = some 2 := by decide +kernel
set_option maxHeartbeats 4000000 in
set_option maxRecDepth 100000 in
theorem mX0_detail (l : Launch) (D : va_G) (cI cZ : ClassId) (q0 : Nat) (q1 : Nat) (q2 : Nat) (q3 : Nat) (v_piece : Nat → Int32) (v_partner : Nat → Int32) (v_children : Nat → Int32) (x1 : Int32) (x2 : Int32) (z : Int32) (hF : fX0_detail v_piece v_partner v_children x1 x2 = some z) : mp l yX0_detail wtX0_detail rmX0_detail D cI cZ [.ref q0, .int x1, .int x2] (wdX0_detail cI cZ q0 q1 q2 q3 v_piece v_partner v_children) (some (.int z)) (wdX0_detail cI cZ q0 q1 q2 q3 v_piece v_partner v_children) := by
  refine mp_i (lv0 := [(0, .ref q0), (1, .int x1), (2, .int x2)]) cX0_detail 3 z (by decide) rfl (Nat.le_of_ble_eq_true rfl) rfl (fun E h hend0 => ?_)
  have hend : ∀ (z' : Int32), some z' = some z → ∀ (pc : Nat) (lv : List (Nat × Value)), decode cX0_detail pc = .ok (.ireturn, 1) → G l D E 3 0 0 (wdX0_detail cI cZ q0 q1 q2 q3 v_piece v_partner v_children) pc lv [.int z'] := fun z' e => by cases e; exact hend0
  clear hend0
  unfold fX0_detail at hF
  refine g_iload_n (np := 1) h 2 rfl rfl dX0_detail_0 rfl ?_
  refine g_if_ne h hF dX0_detail_1 (np := 4) rfl (tg := 13) rfl (fun c1 hF => ?_) (fun c1 hF => ?_)
  · refine g_iload_n (np := 14) h 2 rfl rfl dX0_detail_13 rfl ?_
    refine g_iconst (np := 15) (v := (1 : Int32)) h (by decide) dX0_detail_14 rfl ?_
    refine g_icmp_ne h hF dX0_detail_15 (np := 18) rfl (tg := 29) rfl (fun c2 hF => ?_) (fun c2 hF => ?_)
    · refine g_aload_n (np := 30) h 0 rfl rfl dX0_detail_29 rfl ?_
      refine g_get (np := 33) (T := TX0) h imX0_detail_u_X0 0 0 rfl rfl 2 (by decide) (imX0_detail_own _ (List.mem_of_getElem? (i := 4) rfl)) rfl dX0_detail_30 rfl ?_
      refine g_iload_n (np := 34) h 1 rfl rfl dX0_detail_33 rfl ?_
      obtain ⟨r3, hr3, hF⟩ := Option.bind_eq_some_iff.mp hF
      refine g_callN (np := 37) (Wd' := (wdX0_detail cI cZ q0 q1 q2 q3 v_piece v_partner v_children)) (As := [.ref q3, .int x1]) h (mX8_at l D cI cZ q3 8 v_children x1 r3 hr3) gcX0_detail_X8_at rfl ⟨rfl, rfl⟩ (List.mem_of_getElem? (i := 17) rfl) (imX0_detail_own _ (List.mem_of_getElem? (i := 2) rfl)) (imX0_detail_own _ (List.mem_of_getElem? (i := 1) rfl)) hyX8_at rfl rfl rfl rfl ⟨Nat.zero_le _, Nat.zero_le _⟩ [3] [0, 1, 2] (N := 4) (by decide +kernel) rfl rfl rfl rfl rfl dX0_detail_34 rfl ?_
      exact hend _ hF _ _ dX0_detail_37
    · refine g_aload_n (np := 19) h 0 rfl rfl dX0_detail_18 rfl ?_
      refine g_get (np := 22) (T := TX0) h imX0_detail_u_X0 0 0 rfl rfl 1 (by decide) (imX0_detail_own _ (List.mem_of_getElem? (i := 3) rfl)) rfl dX0_detail_19 rfl ?_
      refine g_iload_n (np := 23) h 1 rfl rfl dX0_detail_22 rfl ?_
      obtain ⟨r4, hr4, hF⟩ := Option.bind_eq_some_iff.mp hF
      refine g_callN (np := 26) (Wd' := (wdX0_detail cI cZ q0 q1 q2 q3 v_piece v_partner v_children)) (As := [.ref q2, .int x1]) h (mX8_at l D cI cZ q2 8 v_partner x1 r4 hr4) gcX0_detail_X8_at rfl ⟨rfl, rfl⟩ (List.mem_of_getElem? (i := 17) rfl) (imX0_detail_own _ (List.mem_of_getElem? (i := 2) rfl)) (imX0_detail_own _ (List.mem_of_getElem? (i := 1) rfl)) hyX8_at rfl rfl rfl rfl ⟨Nat.zero_le _, Nat.zero_le _⟩ [2] [0, 1, 3] (N := 4) (by decide +kernel) rfl rfl rfl rfl rfl dX0_detail_23 rfl ?_
      refine g_goto h dX0_detail_26 (np := 37) rfl ?_
      exact hend _ hF _ _ dX0_detail_37
  · refine g_aload_n (np := 5) h 0 rfl rfl dX0_detail_4 rfl ?_
    refine g_get (np := 8) (T := TX0) h imX0_detail_u_X0 0 0 rfl rfl 0 (by decide) (imX0_detail_own _ (List.mem_of_getElem? (i := 0) rfl)) rfl dX0_detail_5 rfl ?_
    refine g_iload_n (np := 9) h 1 rfl rfl dX0_detail_8 rfl ?_
    obtain ⟨r5, hr5, hF⟩ := Option.bind_eq_some_iff.mp hF
    refine g_callN (np := 12) (Wd' := (wdX0_detail cI cZ q0 q1 q2 q3 v_piece v_partner v_children)) (As := [.ref q1, .int x1]) h (mX8_at l D cI cZ q1 8 v_piece x1 r5 hr5) gcX0_detail_X8_at rfl ⟨rfl, rfl⟩ (List.mem_of_getElem? (i := 17) rfl) (imX0_detail_own _ (List.mem_of_getElem? (i := 2) rfl)) (imX0_detail_own _ (List.mem_of_getElem? (i := 1) rfl)) hyX8_at rfl rfl rfl rfl ⟨Nat.zero_le _, Nat.zero_le _⟩ [1] [0, 2, 3] (N := 4) (by decide +kernel) rfl rfl rfl rfl rfl dX0_detail_9 rfl ?_
    exact hend _ hF _ _ dX0_detail_12
theorem dX0_isOfNone_0 : decode cX0_isOfNone 0 = .ok (.aload_n 0, 1) := by decide +kernel
theorem dX0_isOfNone_1 : decode cX0_isOfNone 1 = .ok (.getfield 9, 3) := by decide +kernel
theorem dX0_isOfNone_4 : decode cX0_isOfNone 4 = .ok (.iload_n 1, 1) := by decide +kernel
theorem dX0_isOfNone_5 : decode cX0_isOfNone 5 = .ok (.invokestatic 29, 3) := by decide +kernel
theorem dX0_isOfNone_8 : decode cX0_isOfNone 8 = .ok (.bipush (-6), 2) := by decide +kernel
theorem dX0_isOfNone_10 : decode cX0_isOfNone 10 = .ok (.if_icmp .ne 7, 3) := by decide +kernel
theorem dX0_isOfNone_13 : decode cX0_isOfNone 13 = .ok (.iconst 1, 1) := by decide +kernel
theorem dX0_isOfNone_14 : decode cX0_isOfNone 14 = .ok (.goto 4, 3) := by decide +kernel
theorem dX0_isOfNone_17 : decode cX0_isOfNone 17 = .ok (.iconst 0, 1) := by decide +kernel
theorem dX0_isOfNone_18 : decode cX0_isOfNone 18 = .ok (.ireturn, 1) := by decide +kernel
def wtX0_isOfNone : List Cond := .code yX0_isOfNone cX0_isOfNone 2 (some .boolean) :: (([.fieldLink RX0 9 "DriftKin$Houses" "piece" "[I", .static yX8_at, .initialized RX8]) ++ ((u_ws RX0 TX0 3) ++ ((wtX8_at) ++ [])))
theorem imX0_isOfNone_own : ∀ w ∈ ([.fieldLink RX0 9 "DriftKin$Houses" "piece" "[I", .static yX8_at, .initialized RX8] : List Cond), w ∈ wtX0_isOfNone := fun w h => List.mem_cons_of_mem _ (inl h)
theorem imX0_isOfNone_u_X0 : ∀ w ∈ (u_ws RX0 TX0 3 : List Cond), w ∈ wtX0_isOfNone := fun w h => List.mem_cons_of_mem _ (inr (inl h))
theorem imX0_isOfNone_c_X8_at : ∀ w ∈ (wtX8_at : List Cond), w ∈ wtX0_isOfNone := fun w h => List.mem_cons_of_mem _ (inr (inr (inl h)))
theorem gdX0_isOfNone : ∀ w ∈ wtX0_isOfNone, Gd w := gdc rfl (gda (gdl (by decide +kernel)) (gda (gdu _ _ _) (gda gdX8_at gdn)))
theorem gcX0_isOfNone_X8_at : GoodIn wtX0_isOfNone (wtX8_at) := fun w h => ⟨imX0_isOfNone_c_X8_at w h, gdX8_at w h⟩
def fX0_isOfNone (v_piece : Nat → Int32) (x1 : Int32) : Option (Int32) :=
  (fX8_at 8 v_piece x1).bind (fun r1 =>
    if r1 = (-6 : Int32) then
      some (1 : Int32)
    else
      some (0 : Int32))
def wdX0_isOfNone (cI cZ : ClassId) (q0 : Nat) (q1 : Nat) (d2 : Nat) (d3 : Nat)  (v_piece : Nat → Int32) : va_W := [(q0, .inr (0, [.ref q1, .ref d2, .ref d3])), (q1, .inl (cI, 8, .inl v_piece))]
abbrev rmX0_isOfNone : Jvm.Room := { frames := 1, cells := 0, slots := 0, locals := 21 }
theorem hyX0_isOfNone : yX0_isOfNone.cls ≠ "java/lang/invoke/MethodHandle" ∧ yX0_isOfNone.cls ≠ "java/lang/invoke/VarHandle" ∧ (parseMethodDescriptor yX0_isOfNone.desc).map (fun d => d.parameters.length) = some 1 := by decide +kernel
set_option maxHeartbeats 4000000 in
set_option maxRecDepth 100000 in
theorem mX0_isOfNone (l : Launch) (D : va_G) (cI cZ : ClassId) (q0 : Nat) (q1 : Nat) (d2 : Nat) (d3 : Nat) (v_piece : Nat → Int32) (x1 : Int32) (z : Int32) (hF : fX0_isOfNone v_piece x1 = some z) : mp l yX0_isOfNone wtX0_isOfNone rmX0_isOfNone D cI cZ [.ref q0, .int x1] (wdX0_isOfNone cI cZ q0 q1 d2 d3 v_piece) (some (.int z)) (wdX0_isOfNone cI cZ q0 q1 d2 d3 v_piece) := by
  refine mp_z (lv0 := [(0, .ref q0), (1, .int x1)]) cX0_isOfNone 2 z (by decide) rfl (Nat.le_of_ble_eq_true rfl) rfl (fun E h hend0 => ?_)
  have hend : ∀ (z' : Int32), some z' = some z → ∀ (pc : Nat) (lv : List (Nat × Value)), z' = z' &&& 1 → decode cX0_isOfNone pc = .ok (.ireturn, 1) → G l D E 2 0 0 (wdX0_isOfNone cI cZ q0 q1 d2 d3 v_piece) pc lv [.int z'] := fun z' e => by cases e; exact hend0
  clear hend0
  unfold fX0_isOfNone at hF
  refine g_aload_n (np := 1) h 0 rfl rfl dX0_isOfNone_0 rfl ?_
  refine g_get (np := 4) (T := TX0) h imX0_isOfNone_u_X0 0 0 rfl rfl 0 (by decide) (imX0_isOfNone_own _ (List.mem_of_getElem? (i := 0) rfl)) rfl dX0_isOfNone_1 rfl ?_
  refine g_iload_n (np := 5) h 1 rfl rfl dX0_isOfNone_4 rfl ?_
  obtain ⟨r1, hr1, hF⟩ := Option.bind_eq_some_iff.mp hF
  refine g_callN (np := 8) (Wd' := (wdX0_isOfNone cI cZ q0 q1 d2 d3 v_piece)) (As := [.ref q1, .int x1]) h (mX8_at l D cI cZ q1 8 v_piece x1 r1 hr1) gcX0_isOfNone_X8_at rfl ⟨rfl, rfl⟩ (List.mem_of_getElem? (i := 17) rfl) (imX0_isOfNone_own _ (List.mem_of_getElem? (i := 2) rfl)) (imX0_isOfNone_own _ (List.mem_of_getElem? (i := 1) rfl)) hyX8_at rfl rfl rfl rfl ⟨Nat.zero_le _, Nat.zero_le _⟩ [1] [0] (N := 2) (by decide +kernel) rfl rfl rfl rfl rfl dX0_isOfNone_5 rfl ?_
  refine g_bipush (np := 10) (v := (-6 : Int32)) h (by decide) dX0_isOfNone_8 rfl ?_
  refine g_icmp_ne h hF dX0_isOfNone_10 (np := 13) rfl (tg := 17) rfl (fun c2 hF => ?_) (fun c2 hF => ?_)
  · refine g_iconst (np := 18) (v := (0 : Int32)) h (by decide) dX0_isOfNone_17 rfl ?_
    exact hend _ hF _ _ (by decide) dX0_isOfNone_18
  · refine g_iconst (np := 14) (v := (1 : Int32)) h (by decide) dX0_isOfNone_13 rfl ?_
    refine g_goto h dX0_isOfNone_14 (np := 18) rfl ?_
    exact hend _ hF _ _ (by decide) dX0_isOfNone_18
theorem dX0_isWed_0 : decode cX0_isWed 0 = .ok (.aload_n 0, 1) := by decide +kernel
theorem dX0_isWed_1 : decode cX0_isWed 1 = .ok (.getfield 15, 3) := by decide +kernel
theorem dX0_isWed_4 : decode cX0_isWed 4 = .ok (.iload_n 1, 1) := by decide +kernel
theorem dX0_isWed_5 : decode cX0_isWed 5 = .ok (.invokestatic 29, 3) := by decide +kernel
theorem dX0_isWed_8 : decode cX0_isWed 8 = .ok (.bipush (-6), 2) := by decide +kernel
theorem dX0_isWed_10 : decode cX0_isWed 10 = .ok (.if_icmp .eq 7, 3) := by decide +kernel
theorem dX0_isWed_13 : decode cX0_isWed 13 = .ok (.iconst 1, 1) := by decide +kernel
theorem dX0_isWed_14 : decode cX0_isWed 14 = .ok (.goto 4, 3) := by decide +kernel
theorem dX0_isWed_17 : decode cX0_isWed 17 = .ok (.iconst 0, 1) := by decide +kernel
theorem dX0_isWed_18 : decode cX0_isWed 18 = .ok (.ireturn, 1) := by decide +kernel
def wtX0_isWed : List Cond := .code yX0_isWed cX0_isWed 2 (some .boolean) :: (([.fieldLink RX0 15 "DriftKin$Houses" "partner" "[I", .static yX8_at, .initialized RX8]) ++ ((u_ws RX0 TX0 3) ++ ((wtX8_at) ++ [])))
theorem imX0_isWed_own : ∀ w ∈ ([.fieldLink RX0 15 "DriftKin$Houses" "partner" "[I", .static yX8_at, .initialized RX8] : List Cond), w ∈ wtX0_isWed := fun w h => List.mem_cons_of_mem _ (inl h)
theorem imX0_isWed_u_X0 : ∀ w ∈ (u_ws RX0 TX0 3 : List Cond), w ∈ wtX0_isWed := fun w h => List.mem_cons_of_mem _ (inr (inl h))
theorem imX0_isWed_c_X8_at : ∀ w ∈ (wtX8_at : List Cond), w ∈ wtX0_isWed := fun w h => List.mem_cons_of_mem _ (inr (inr (inl h)))
theorem gdX0_isWed : ∀ w ∈ wtX0_isWed, Gd w := gdc rfl (gda (gdl (by decide +kernel)) (gda (gdu _ _ _) (gda gdX8_at gdn)))
theorem gcX0_isWed_X8_at : GoodIn wtX0_isWed (wtX8_at) := fun w h => ⟨imX0_isWed_c_X8_at w h, gdX8_at w h⟩
def fX0_isWed (v_partner : Nat → Int32) (x1 : Int32) : Option (Int32) :=
  (fX8_at 8 v_partner x1).bind (fun r1 =>
    if r1 = (-6 : Int32) then
      some (0 : Int32)
    else
      some (1 : Int32))
def wdX0_isWed (cI cZ : ClassId) (q0 : Nat) (q1 : Nat) (d2 : Nat) (d3 : Nat)  (v_partner : Nat → Int32) : va_W := [(q0, .inr (0, [.ref d2, .ref q1, .ref d3])), (q1, .inl (cI, 8, .inl v_partner))]
abbrev rmX0_isWed : Jvm.Room := { frames := 1, cells := 0, slots := 0, locals := 21 }
theorem hyX0_isWed : yX0_isWed.cls ≠ "java/lang/invoke/MethodHandle" ∧ yX0_isWed.cls ≠ "java/lang/invoke/VarHandle" ∧ (parseMethodDescriptor yX0_isWed.desc).map (fun d => d.parameters.length) = some 1 := by decide +kernel
set_option maxHeartbeats 4000000 in
set_option maxRecDepth 100000 in
theorem mX0_isWed (l : Launch) (D : va_G) (cI cZ : ClassId) (q0 : Nat) (q1 : Nat) (d2 : Nat) (d3 : Nat) (v_partner : Nat → Int32) (x1 : Int32) (z : Int32) (hF : fX0_isWed v_partner x1 = some z) : mp l yX0_isWed wtX0_isWed rmX0_isWed D cI cZ [.ref q0, .int x1] (wdX0_isWed cI cZ q0 q1 d2 d3 v_partner) (some (.int z)) (wdX0_isWed cI cZ q0 q1 d2 d3 v_partner) := by
  refine mp_z (lv0 := [(0, .ref q0), (1, .int x1)]) cX0_isWed 2 z (by decide) rfl (Nat.le_of_ble_eq_true rfl) rfl (fun E h hend0 => ?_)
  have hend : ∀ (z' : Int32), some z' = some z → ∀ (pc : Nat) (lv : List (Nat × Value)), z' = z' &&& 1 → decode cX0_isWed pc = .ok (.ireturn, 1) → G l D E 2 0 0 (wdX0_isWed cI cZ q0 q1 d2 d3 v_partner) pc lv [.int z'] := fun z' e => by cases e; exact hend0
  clear hend0
  unfold fX0_isWed at hF
  refine g_aload_n (np := 1) h 0 rfl rfl dX0_isWed_0 rfl ?_
  refine g_get (np := 4) (T := TX0) h imX0_isWed_u_X0 0 0 rfl rfl 1 (by decide) (imX0_isWed_own _ (List.mem_of_getElem? (i := 0) rfl)) rfl dX0_isWed_1 rfl ?_
  refine g_iload_n (np := 5) h 1 rfl rfl dX0_isWed_4 rfl ?_
  obtain ⟨r1, hr1, hF⟩ := Option.bind_eq_some_iff.mp hF
  refine g_callN (np := 8) (Wd' := (wdX0_isWed cI cZ q0 q1 d2 d3 v_partner)) (As := [.ref q1, .int x1]) h (mX8_at l D cI cZ q1 8 v_partner x1 r1 hr1) gcX0_isWed_X8_at rfl ⟨rfl, rfl⟩ (List.mem_of_getElem? (i := 17) rfl) (imX0_isWed_own _ (List.mem_of_getElem? (i := 2) rfl)) (imX0_isWed_own _ (List.mem_of_getElem? (i := 1) rfl)) hyX8_at rfl rfl rfl rfl ⟨Nat.zero_le _, Nat.zero_le _⟩ [1] [0] (N := 2) (by decide +kernel) rfl rfl rfl rfl rfl dX0_isWed_5 rfl ?_
  refine g_bipush (np := 10) (v := (-6 : Int32)) h (by decide) dX0_isWed_8 rfl ?_
  refine g_icmp_eq h hF dX0_isWed_10 (np := 13) rfl (tg := 17) rfl (fun c2 hF => ?_) (fun c2 hF => ?_)
  · refine g_iconst (np := 18) (v := (0 : Int32)) h (by decide) dX0_isWed_17 rfl ?_
    exact hend _ hF _ _ (by decide) dX0_isWed_18
  · refine g_iconst (np := 14) (v := (1 : Int32)) h (by decide) dX0_isWed_13 rfl ?_
    refine g_goto h dX0_isWed_14 (np := 18) rfl ?_
    exact hend _ hF _ _ (by decide) dX0_isWed_18
theorem dX0_countOfPieces_0 : decode cX0_countOfPieces 0 = .ok (.iconst 0, 1) := by decide +kernel
theorem dX0_countOfPieces_1 : decode cX0_countOfPieces 1 = .ok (.istore_n 1, 1) := by decide +kernel
theorem dX0_countOfPieces_2 : decode cX0_countOfPieces 2 = .ok (.iconst 0, 1) := by decide +kernel
theorem dX0_countOfPieces_3 : decode cX0_countOfPieces 3 = .ok (.istore_n 2, 1) := by decide +kernel
theorem dX0_countOfPieces_4 : decode cX0_countOfPieces 4 = .ok (.iload_n 2, 1) := by decide +kernel
theorem dX0_countOfPieces_5 : decode cX0_countOfPieces 5 = .ok (.aload_n 0, 1) := by decide +kernel
theorem dX0_countOfPieces_6 : decode cX0_countOfPieces 6 = .ok (.getfield 9, 3) := by decide +kernel
theorem dX0_countOfPieces_9 : decode cX0_countOfPieces 9 = .ok (.arraylength, 1) := by decide +kernel
theorem dX0_countOfPieces_10 : decode cX0_countOfPieces 10 = .ok (.if_icmp .ge 23, 3) := by decide +kernel
theorem dX0_countOfPieces_13 : decode cX0_countOfPieces 13 = .ok (.aload_n 0, 1) := by decide +kernel
theorem dX0_countOfPieces_14 : decode cX0_countOfPieces 14 = .ok (.getfield 9, 3) := by decide +kernel
theorem dX0_countOfPieces_17 : decode cX0_countOfPieces 17 = .ok (.iload_n 2, 1) := by decide +kernel
theorem dX0_countOfPieces_18 : decode cX0_countOfPieces 18 = .ok (.iaload, 1) := by decide +kernel
theorem dX0_countOfPieces_19 : decode cX0_countOfPieces 19 = .ok (.bipush (-6), 2) := by decide +kernel
theorem dX0_countOfPieces_21 : decode cX0_countOfPieces 21 = .ok (.if_icmp .eq 6, 3) := by decide +kernel
theorem dX0_countOfPieces_24 : decode cX0_countOfPieces 24 = .ok (.iinc 1 1, 3) := by decide +kernel
theorem dX0_countOfPieces_27 : decode cX0_countOfPieces 27 = .ok (.iinc 2 1, 3) := by decide +kernel
theorem dX0_countOfPieces_30 : decode cX0_countOfPieces 30 = .ok (.goto (-26), 3) := by decide +kernel
theorem dX0_countOfPieces_33 : decode cX0_countOfPieces 33 = .ok (.iload_n 1, 1) := by decide +kernel
theorem dX0_countOfPieces_34 : decode cX0_countOfPieces 34 = .ok (.ireturn, 1) := by decide +kernel
def wtX0_countOfPieces : List Cond := .code yX0_countOfPieces cX0_countOfPieces 3 (some .int) :: (([.fieldLink RX0 9 "DriftKin$Houses" "piece" "[I"]) ++ ((u_ws RX0 TX0 3) ++ []))
theorem imX0_countOfPieces_own : ∀ w ∈ ([.fieldLink RX0 9 "DriftKin$Houses" "piece" "[I"] : List Cond), w ∈ wtX0_countOfPieces := fun w h => List.mem_cons_of_mem _ (inl h)
theorem imX0_countOfPieces_u_X0 : ∀ w ∈ (u_ws RX0 TX0 3 : List Cond), w ∈ wtX0_countOfPieces := fun w h => List.mem_cons_of_mem _ (inr (inl h))
theorem gdX0_countOfPieces : ∀ w ∈ wtX0_countOfPieces, Gd w := gdc rfl (gda (gdl (by decide +kernel)) (gda (gdu _ _ _) gdn))
def fX0_countOfPieces_4 (v_piece : Nat → Int32) : Nat → Int32 → Int32 → Option (Int32)
  | 0, _, _ => none
  | n + 1, x1, x2 =>
    if (8 : Int32) ≤ x2 then
      some x1
    else
      chk x2 8 (
        if (rd v_piece x2) = (-6 : Int32) then
          fX0_countOfPieces_4 v_piece n x1 (x2 + (1 : Int32))
        else
          fX0_countOfPieces_4 v_piece n (x1 + (1 : Int32)) (x2 + (1 : Int32)))
def fX0_countOfPieces (v_piece : Nat → Int32) : Option (Int32) :=
  fX0_countOfPieces_4 v_piece 2000 (0 : Int32) (0 : Int32)
def wdX0_countOfPieces (cI cZ : ClassId) (q0 : Nat) (q1 : Nat) (d2 : Nat) (d3 : Nat)  (v_piece : Nat → Int32) : va_W := [(q0, .inr (0, [.ref q1, .ref d2, .ref d3])), (q1, .inl (cI, 8, .inl v_piece))]
abbrev rmX0_countOfPieces : Jvm.Room := { frames := 0, cells := 0, slots := 0, locals := 0 }
theorem hyX0_countOfPieces : yX0_countOfPieces.cls ≠ "java/lang/invoke/MethodHandle" ∧ yX0_countOfPieces.cls ≠ "java/lang/invoke/VarHandle" ∧ (parseMethodDescriptor yX0_countOfPieces.desc).map (fun d => d.parameters.length) = some 0 := by decide +kernel
set_option maxHeartbeats 4000000 in
set_option maxRecDepth 100000 in
theorem mX0_countOfPieces (l : Launch) (D : va_G) (cI cZ : ClassId) (q0 : Nat) (q1 : Nat) (d2 : Nat) (d3 : Nat) (v_piece : Nat → Int32) (z : Int32) (hF : fX0_countOfPieces v_piece = some z) : mp l yX0_countOfPieces wtX0_countOfPieces rmX0_countOfPieces D cI cZ [.ref q0] (wdX0_countOfPieces cI cZ q0 q1 d2 d3 v_piece) (some (.int z)) (wdX0_countOfPieces cI cZ q0 q1 d2 d3 v_piece) := by
  refine mp_i (lv0 := [(0, .ref q0)]) cX0_countOfPieces 3 z (by decide) rfl (Nat.le_of_ble_eq_true rfl) rfl (fun E h hend0 => ?_)
  have hend : ∀ (z' : Int32), some z' = some z → ∀ (pc : Nat) (lv : List (Nat × Value)), decode cX0_countOfPieces pc = .ok (.ireturn, 1) → G l D E 3 0 0 (wdX0_countOfPieces cI cZ q0 q1 d2 d3 v_piece) pc lv [.int z'] := fun z' e => by cases e; exact hend0
  clear hend0
  have hL4 : ∀ (n4 : Nat) (x1 : Int32) (x2 : Int32), fX0_countOfPieces_4 v_piece n4 x1 x2 = some z → G l D E 3 0 0 (wdX0_countOfPieces cI cZ q0 q1 d2 d3 v_piece) 4 [(0, .ref q0), (1, .int x1), (2, .int x2)] [] := by
    intro n4
    induction n4 with
    | zero =>
      intro x1 x2 hF
      rw [fX0_countOfPieces_4] at hF
      cases hF
    | succ n4 ih4 =>
      intro x1 x2 hF
      rw [fX0_countOfPieces_4] at hF
      refine g_iload_n (np := 5) h 2 rfl rfl dX0_countOfPieces_4 rfl ?_
      refine g_aload_n (np := 6) h 0 rfl rfl dX0_countOfPieces_5 rfl ?_
      refine g_get (np := 9) (T := TX0) h imX0_countOfPieces_u_X0 0 0 rfl rfl 0 (by decide) (imX0_countOfPieces_own _ (List.mem_of_getElem? (i := 0) rfl)) rfl dX0_countOfPieces_6 rfl ?_
      refine g_alen (np := 10) (v := (8 : Int32)) h 1 rfl (by decide) dX0_countOfPieces_9 rfl ?_
      refine g_icmp_ge h hF dX0_countOfPieces_10 (np := 13) rfl (tg := 33) rfl (fun c1001 hF => ?_) (fun c1001 hF => ?_)
      · refine g_iload_n (np := 34) h 1 rfl rfl dX0_countOfPieces_33 rfl ?_
        exact hend _ hF _ _ dX0_countOfPieces_34
      · refine g_aload_n (np := 14) h 0 rfl rfl dX0_countOfPieces_13 rfl ?_
        refine g_get (np := 17) (T := TX0) h imX0_countOfPieces_u_X0 0 0 rfl rfl 0 (by decide) (imX0_countOfPieces_own _ (List.mem_of_getElem? (i := 0) rfl)) rfl dX0_countOfPieces_14 rfl ?_
        refine g_iload_n (np := 18) h 2 rfl rfl dX0_countOfPieces_17 rfl ?_
        refine g_iald (np := 19) h 1 rfl hF dX0_countOfPieces_18 rfl (fun hi1002 hF => ?_)
        refine g_bipush (np := 21) (v := (-6 : Int32)) h (by decide) dX0_countOfPieces_19 rfl ?_
        refine g_icmp_eq h hF dX0_countOfPieces_21 (np := 24) rfl (tg := 27) rfl (fun c1003 hF => ?_) (fun c1003 hF => ?_)
        · refine g_iinc (np := 30) (v := (x2 + (1 : Int32))) (lv' := [(2, .int (x2 + (1 : Int32))), (0, .ref q0), (1, .int x1)]) h 2 rfl rfl (by decide) rfl dX0_countOfPieces_27 rfl ?_
          refine g_goto h dX0_countOfPieces_30 (np := 4) rfl ?_
          refine g_lv [1, 2, 0] rfl ?_
          exact ih4 x1 (x2 + (1 : Int32)) hF
        · refine g_iinc (np := 27) (v := (x1 + (1 : Int32))) (lv' := [(1, .int (x1 + (1 : Int32))), (0, .ref q0), (2, .int x2)]) h 1 rfl rfl (by decide) rfl dX0_countOfPieces_24 rfl ?_
          refine g_iinc (np := 30) (v := (x2 + (1 : Int32))) (lv' := [(2, .int (x2 + (1 : Int32))), (1, .int (x1 + (1 : Int32))), (0, .ref q0)]) h 2 rfl rfl (by decide) rfl dX0_countOfPieces_27 rfl ?_
          refine g_goto h dX0_countOfPieces_30 (np := 4) rfl ?_
          refine g_lv [2, 1, 0] rfl ?_
          exact ih4 (x1 + (1 : Int32)) (x2 + (1 : Int32)) hF
  unfold fX0_countOfPieces at hF
  refine g_iconst (np := 1) (v := (0 : Int32)) h (by decide) dX0_countOfPieces_0 rfl ?_
  refine g_istore_n (np := 2) (lv' := [(1, .int (0 : Int32)), (0, .ref q0)]) h rfl (by decide) rfl dX0_countOfPieces_1 rfl ?_
  refine g_iconst (np := 3) (v := (0 : Int32)) h (by decide) dX0_countOfPieces_2 rfl ?_
  refine g_istore_n (np := 4) (lv' := [(2, .int (0 : Int32)), (1, .int (0 : Int32)), (0, .ref q0)]) h rfl (by decide) rfl dX0_countOfPieces_3 rfl ?_
  refine g_lv [2, 1, 0] rfl ?_
  exact hL4 _ (0 : Int32) (0 : Int32) hF
theorem dX0_allChildren_0 : decode cX0_allChildren 0 = .ok (.iconst 0, 1) := by decide +kernel
theorem dX0_allChildren_1 : decode cX0_allChildren 1 = .ok (.istore_n 1, 1) := by decide +kernel
theorem dX0_allChildren_2 : decode cX0_allChildren 2 = .ok (.iconst 0, 1) := by decide +kernel
theorem dX0_allChildren_3 : decode cX0_allChildren 3 = .ok (.istore_n 2, 1) := by decide +kernel
theorem dX0_allChildren_4 : decode cX0_allChildren 4 = .ok (.iload_n 2, 1) := by decide +kernel
theorem dX0_allChildren_5 : decode cX0_allChildren 5 = .ok (.aload_n 0, 1) := by decide +kernel
theorem dX0_allChildren_6 : decode cX0_allChildren 6 = .ok (.getfield 18, 3) := by decide +kernel
theorem dX0_allChildren_9 : decode cX0_allChildren 9 = .ok (.arraylength, 1) := by decide +kernel
theorem dX0_allChildren_10 : decode cX0_allChildren 10 = .ok (.if_icmp .ge 18, 3) := by decide +kernel
theorem dX0_allChildren_13 : decode cX0_allChildren 13 = .ok (.iload_n 1, 1) := by decide +kernel
theorem dX0_allChildren_14 : decode cX0_allChildren 14 = .ok (.aload_n 0, 1) := by decide +kernel
theorem dX0_allChildren_15 : decode cX0_allChildren 15 = .ok (.getfield 18, 3) := by decide +kernel
theorem dX0_allChildren_18 : decode cX0_allChildren 18 = .ok (.iload_n 2, 1) := by decide +kernel
theorem dX0_allChildren_19 : decode cX0_allChildren 19 = .ok (.iaload, 1) := by decide +kernel
theorem dX0_allChildren_20 : decode cX0_allChildren 20 = .ok (.iadd, 1) := by decide +kernel
theorem dX0_allChildren_21 : decode cX0_allChildren 21 = .ok (.istore_n 1, 1) := by decide +kernel
theorem dX0_allChildren_22 : decode cX0_allChildren 22 = .ok (.iinc 2 1, 3) := by decide +kernel
theorem dX0_allChildren_25 : decode cX0_allChildren 25 = .ok (.goto (-21), 3) := by decide +kernel
theorem dX0_allChildren_28 : decode cX0_allChildren 28 = .ok (.iload_n 1, 1) := by decide +kernel
theorem dX0_allChildren_29 : decode cX0_allChildren 29 = .ok (.ireturn, 1) := by decide +kernel
def wtX0_allChildren : List Cond := .code yX0_allChildren cX0_allChildren 3 (some .int) :: (([.fieldLink RX0 18 "DriftKin$Houses" "children" "[I"]) ++ ((u_ws RX0 TX0 3) ++ []))
theorem imX0_allChildren_own : ∀ w ∈ ([.fieldLink RX0 18 "DriftKin$Houses" "children" "[I"] : List Cond), w ∈ wtX0_allChildren := fun w h => List.mem_cons_of_mem _ (inl h)
theorem imX0_allChildren_u_X0 : ∀ w ∈ (u_ws RX0 TX0 3 : List Cond), w ∈ wtX0_allChildren := fun w h => List.mem_cons_of_mem _ (inr (inl h))
theorem gdX0_allChildren : ∀ w ∈ wtX0_allChildren, Gd w := gdc rfl (gda (gdl (by decide +kernel)) (gda (gdu _ _ _) gdn))
def fX0_allChildren_4 (v_children : Nat → Int32) : Nat → Int32 → Int32 → Option (Int32)
  | 0, _, _ => none
  | n + 1, x1, x2 =>
    if (8 : Int32) ≤ x2 then
      some x1
    else
      chk x2 8 (
        fX0_allChildren_4 v_children n (x1 + (rd v_children x2)) (x2 + (1 : Int32)))
def fX0_allChildren (v_children : Nat → Int32) : Option (Int32) :=
  fX0_allChildren_4 v_children 2000 (0 : Int32) (0 : Int32)
def wdX0_allChildren (cI cZ : ClassId) (q0 : Nat) (q1 : Nat) (d2 : Nat) (d3 : Nat)  (v_children : Nat → Int32) : va_W := [(q0, .inr (0, [.ref d2, .ref d3, .ref q1])), (q1, .inl (cI, 8, .inl v_children))]
abbrev rmX0_allChildren : Jvm.Room := { frames := 0, cells := 0, slots := 0, locals := 0 }
theorem hyX0_allChildren : yX0_allChildren.cls ≠ "java/lang/invoke/MethodHandle" ∧ yX0_allChildren.cls ≠ "java/lang/invoke/VarHandle" ∧ (parseMethodDescriptor yX0_allChildren.desc).map (fun d => d.parameters.length) = some 0 := by decide +kernel
set_option maxHeartbeats 4000000 in
set_option maxRecDepth 100000 in
theorem mX0_allChildren (l : Launch) (D : va_G) (cI cZ : ClassId) (q0 : Nat) (q1 : Nat) (d2 : Nat) (d3 : Nat) (v_children : Nat → Int32) (z : Int32) (hF : fX0_allChildren v_children = some z) : mp l yX0_allChildren wtX0_allChildren rmX0_allChildren D cI cZ [.ref q0] (wdX0_allChildren cI cZ q0 q1 d2 d3 v_children) (some (.int z)) (wdX0_allChildren cI cZ q0 q1 d2 d3 v_children) := by
  refine mp_i (lv0 := [(0, .ref q0)]) cX0_allChildren 3 z (by decide) rfl (Nat.le_of_ble_eq_true rfl) rfl (fun E h hend0 => ?_)
  have hend : ∀ (z' : Int32), some z' = some z → ∀ (pc : Nat) (lv : List (Nat × Value)), decode cX0_allChildren pc = .ok (.ireturn, 1) → G l D E 3 0 0 (wdX0_allChildren cI cZ q0 q1 d2 d3 v_children) pc lv [.int z'] := fun z' e => by cases e; exact hend0
  clear hend0
  have hL4 : ∀ (n4 : Nat) (x1 : Int32) (x2 : Int32), fX0_allChildren_4 v_children n4 x1 x2 = some z → G l D E 3 0 0 (wdX0_allChildren cI cZ q0 q1 d2 d3 v_children) 4 [(0, .ref q0), (1, .int x1), (2, .int x2)] [] := by
    intro n4
    induction n4 with
    | zero =>
      intro x1 x2 hF
      rw [fX0_allChildren_4] at hF
      cases hF
    | succ n4 ih4 =>
      intro x1 x2 hF
      rw [fX0_allChildren_4] at hF
      refine g_iload_n (np := 5) h 2 rfl rfl dX0_allChildren_4 rfl ?_
      refine g_aload_n (np := 6) h 0 rfl rfl dX0_allChildren_5 rfl ?_
      refine g_get (np := 9) (T := TX0) h imX0_allChildren_u_X0 0 0 rfl rfl 2 (by decide) (imX0_allChildren_own _ (List.mem_of_getElem? (i := 0) rfl)) rfl dX0_allChildren_6 rfl ?_
      refine g_alen (np := 10) (v := (8 : Int32)) h 1 rfl (by decide) dX0_allChildren_9 rfl ?_
      refine g_icmp_ge h hF dX0_allChildren_10 (np := 13) rfl (tg := 28) rfl (fun c1001 hF => ?_) (fun c1001 hF => ?_)
      · refine g_iload_n (np := 29) h 1 rfl rfl dX0_allChildren_28 rfl ?_
        exact hend _ hF _ _ dX0_allChildren_29
      · refine g_iload_n (np := 14) h 1 rfl rfl dX0_allChildren_13 rfl ?_
        refine g_aload_n (np := 15) h 0 rfl rfl dX0_allChildren_14 rfl ?_
        refine g_get (np := 18) (T := TX0) h imX0_allChildren_u_X0 0 0 rfl rfl 2 (by decide) (imX0_allChildren_own _ (List.mem_of_getElem? (i := 0) rfl)) rfl dX0_allChildren_15 rfl ?_
        refine g_iload_n (np := 19) h 2 rfl rfl dX0_allChildren_18 rfl ?_
        refine g_iald (np := 20) h 1 rfl hF dX0_allChildren_19 rfl (fun hi1002 hF => ?_)
        refine g_iadd (np := 21) h dX0_allChildren_20 rfl ?_
        refine g_istore_n (np := 22) (lv' := [(1, .int (x1 + (rd v_children x2))), (0, .ref q0), (2, .int x2)]) h rfl (by decide) rfl dX0_allChildren_21 rfl ?_
        refine g_iinc (np := 25) (v := (x2 + (1 : Int32))) (lv' := [(2, .int (x2 + (1 : Int32))), (1, .int (x1 + (rd v_children x2))), (0, .ref q0)]) h 2 rfl rfl (by decide) rfl dX0_allChildren_22 rfl ?_
        refine g_goto h dX0_allChildren_25 (np := 4) rfl ?_
        refine g_lv [2, 1, 0] rfl ?_
        exact ih4 (x1 + (rd v_children x2)) (x2 + (1 : Int32)) hF
  unfold fX0_allChildren at hF
  refine g_iconst (np := 1) (v := (0 : Int32)) h (by decide) dX0_allChildren_0 rfl ?_
  refine g_istore_n (np := 2) (lv' := [(1, .int (0 : Int32)), (0, .ref q0)]) h rfl (by decide) rfl dX0_allChildren_1 rfl ?_
  refine g_iconst (np := 3) (v := (0 : Int32)) h (by decide) dX0_allChildren_2 rfl ?_
  refine g_istore_n (np := 4) (lv' := [(2, .int (0 : Int32)), (1, .int (0 : Int32)), (0, .ref q0)]) h rfl (by decide) rfl dX0_allChildren_3 rfl ?_
  refine g_lv [2, 1, 0] rfl ?_
  exact hL4 _ (0 : Int32) (0 : Int32) hF
theorem dX3_become_0 : decode cX3_become 0 = .ok (.aload_n 1, 1) := by decide +kernel
theorem dX3_become_1 : decode cX3_become 1 = .ok (.getfield 9, 3) := by decide +kernel
theorem dX3_become_4 : decode cX3_become 4 = .ok (.aload_n 0, 1) := by decide +kernel
theorem dX3_become_5 : decode cX3_become 5 = .ok (.getfield 9, 3) := by decide +kernel
theorem dX3_become_8 : decode cX3_become 8 = .ok (.invokestatic 37, 3) := by decide +kernel
theorem dX3_become_11 : decode cX3_become 11 = .ok (.aload_n 1, 1) := by decide +kernel
theorem dX3_become_12 : decode cX3_become 12 = .ok (.getfield 15, 3) := by decide +kernel
theorem dX3_become_15 : decode cX3_become 15 = .ok (.aload_n 0, 1) := by decide +kernel
theorem dX3_become_16 : decode cX3_become 16 = .ok (.getfield 15, 3) := by decide +kernel
theorem dX3_become_19 : decode cX3_become 19 = .ok (.invokestatic 37, 3) := by decide +kernel
theorem dX3_become_22 : decode cX3_become 22 = .ok (.aload_n 1, 1) := by decide +kernel
theorem dX3_become_23 : decode cX3_become 23 = .ok (.getfield 18, 3) := by decide +kernel
theorem dX3_become_26 : decode cX3_become 26 = .ok (.aload_n 0, 1) := by decide +kernel
theorem dX3_become_27 : decode cX3_become 27 = .ok (.getfield 18, 3) := by decide +kernel
theorem dX3_become_30 : decode cX3_become 30 = .ok (.invokestatic 37, 3) := by decide +kernel
theorem dX3_become_33 : decode cX3_become 33 = .ok (.aload_n 1, 1) := by decide +kernel
theorem dX3_become_34 : decode cX3_become 34 = .ok (.getfield 21, 3) := by decide +kernel
theorem dX3_become_37 : decode cX3_become 37 = .ok (.aload_n 0, 1) := by decide +kernel
theorem dX3_become_38 : decode cX3_become 38 = .ok (.getfield 21, 3) := by decide +kernel
theorem dX3_become_41 : decode cX3_become 41 = .ok (.invokestatic 37, 3) := by decide +kernel
theorem dX3_become_44 : decode cX3_become 44 = .ok (.aload_n 1, 1) := by decide +kernel
theorem dX3_become_45 : decode cX3_become 45 = .ok (.getfield 24, 3) := by decide +kernel
theorem dX3_become_48 : decode cX3_become 48 = .ok (.aload_n 0, 1) := by decide +kernel
theorem dX3_become_49 : decode cX3_become 49 = .ok (.getfield 24, 3) := by decide +kernel
theorem dX3_become_52 : decode cX3_become 52 = .ok (.invokestatic 37, 3) := by decide +kernel
theorem dX3_become_55 : decode cX3_become 55 = .ok (.aload_n 1, 1) := by decide +kernel
theorem dX3_become_56 : decode cX3_become 56 = .ok (.getfield 27, 3) := by decide +kernel
theorem dX3_become_59 : decode cX3_become 59 = .ok (.aload_n 0, 1) := by decide +kernel
theorem dX3_become_60 : decode cX3_become 60 = .ok (.getfield 27, 3) := by decide +kernel
theorem dX3_become_63 : decode cX3_become 63 = .ok (.invokestatic 37, 3) := by decide +kernel
theorem dX3_become_66 : decode cX3_become 66 = .ok (.aload_n 1, 1) := by decide +kernel
theorem dX3_become_67 : decode cX3_become 67 = .ok (.getfield 30, 3) := by decide +kernel
theorem dX3_become_70 : decode cX3_become 70 = .ok (.aload_n 0, 1) := by decide +kernel
theorem dX3_become_71 : decode cX3_become 71 = .ok (.getfield 30, 3) := by decide +kernel
theorem dX3_become_74 : decode cX3_become 74 = .ok (.invokestatic 37, 3) := by decide +kernel
theorem dX3_become_77 : decode cX3_become 77 = .ok (.return_, 1) := by decide +kernel
def wtX3_become : List Cond := .code yX3_become cX3_become 2 none :: (([.fieldLink RX3 9 "DriftKin$Pieces" "wreck" "[I", .static yX8_copy, .initialized RX8, .fieldLink RX3 15 "DriftKin$Pieces" "wood" "[I", .fieldLink RX3 18 "DriftKin$Pieces" "length" "[I", .fieldLink RX3 21 "DriftKin$Pieces" "left" "[I", .fieldLink RX3 24 "DriftKin$Pieces" "right" "[I", .fieldLink RX3 27 "DriftKin$Pieces" "place" "[I", .fieldLink RX3 30 "DriftKin$Pieces" "rings" "[I"]) ++ ((u_ws RX3 TX3 7) ++ ((wtX8_copy) ++ [])))
theorem imX3_become_own : ∀ w ∈ ([.fieldLink RX3 9 "DriftKin$Pieces" "wreck" "[I", .static yX8_copy, .initialized RX8, .fieldLink RX3 15 "DriftKin$Pieces" "wood" "[I", .fieldLink RX3 18 "DriftKin$Pieces" "length" "[I", .fieldLink RX3 21 "DriftKin$Pieces" "left" "[I", .fieldLink RX3 24 "DriftKin$Pieces" "right" "[I", .fieldLink RX3 27 "DriftKin$Pieces" "place" "[I", .fieldLink RX3 30 "DriftKin$Pieces" "rings" "[I"] : List Cond), w ∈ wtX3_become := fun w h => List.mem_cons_of_mem _ (inl h)
theorem imX3_become_u_X3 : ∀ w ∈ (u_ws RX3 TX3 7 : List Cond), w ∈ wtX3_become := fun w h => List.mem_cons_of_mem _ (inr (inl h))
theorem imX3_become_c_X8_copy : ∀ w ∈ (wtX8_copy : List Cond), w ∈ wtX3_become := fun w h => List.mem_cons_of_mem _ (inr (inr (inl h)))
theorem gdX3_become : ∀ w ∈ wtX3_become, Gd w := gdc rfl (gda (gdl (by decide +kernel)) (gda (gdu _ _ _) (gda gdX8_copy gdn)))
theorem gcX3_become_X8_copy : GoodIn wtX3_become (wtX8_copy) := fun w h => ⟨imX3_become_c_X8_copy w h, gdX8_copy w h⟩
def fX3_become (v_wreck : Nat → Int32) (v_wood : Nat → Int32) (v_length : Nat → Int32) (v_left : Nat → Int32) (v_right : Nat → Int32) (v_place : Nat → Int32) (v_rings : Nat → Int32) (v_wreck2 : Nat → Int32) (v_wood2 : Nat → Int32) (v_length2 : Nat → Int32) (v_left2 : Nat → Int32) (v_right2 : Nat → Int32) (v_place2 : Nat → Int32) (v_rings2 : Nat → Int32) : Option ((Nat → Int32) × (Nat → Int32) × (Nat → Int32) × (Nat → Int32) × (Nat → Int32) × (Nat → Int32) × (Nat → Int32)) :=
  (fX8_copy 10 10 v_wreck2 v_wreck).bind (fun r1 =>
    (fX8_copy 10 10 v_wood2 v_wood).bind (fun r2 =>
      (fX8_copy 10 10 v_length2 v_length).bind (fun r3 =>
        (fX8_copy 10 10 v_left2 v_left).bind (fun r4 =>
          (fX8_copy 10 10 v_right2 v_right).bind (fun r5 =>
            (fX8_copy 10 10 v_place2 v_place).bind (fun r6 =>
              (fX8_copy 10 10 v_rings2 v_rings).bind (fun r7 =>
                some (r1, r2, r3, r4, r5, r6, r7))))))))
def wdX3_become (cI cZ : ClassId) (q0 : Nat) (q1 : Nat) (q2 : Nat) (q3 : Nat) (q4 : Nat) (q5 : Nat) (q6 : Nat) (q7 : Nat) (q8 : Nat) (q9 : Nat) (q10 : Nat) (q11 : Nat) (q12 : Nat) (q13 : Nat) (q14 : Nat) (q15 : Nat)  (v_wreck : Nat → Int32) (v_wood : Nat → Int32) (v_length : Nat → Int32) (v_left : Nat → Int32) (v_right : Nat → Int32) (v_place : Nat → Int32) (v_rings : Nat → Int32) (v_wreck2 : Nat → Int32) (v_wood2 : Nat → Int32) (v_length2 : Nat → Int32) (v_left2 : Nat → Int32) (v_right2 : Nat → Int32) (v_place2 : Nat → Int32) (v_rings2 : Nat → Int32) : va_W := [(q0, .inr (3, [.ref q1, .ref q2, .ref q3, .ref q4, .ref q5, .ref q6, .ref q7])), (q1, .inl (cI, 10, .inl v_wreck)), (q2, .inl (cI, 10, .inl v_wood)), (q3, .inl (cI, 10, .inl v_length)), (q4, .inl (cI, 10, .inl v_left)), (q5, .inl (cI, 10, .inl v_right)), (q6, .inl (cI, 10, .inl v_place)), (q7, .inl (cI, 10, .inl v_rings)), (q8, .inr (3, [.ref q9, .ref q10, .ref q11, .ref q12, .ref q13, .ref q14, .ref q15])), (q9, .inl (cI, 10, .inl v_wreck2)), (q10, .inl (cI, 10, .inl v_wood2)), (q11, .inl (cI, 10, .inl v_length2)), (q12, .inl (cI, 10, .inl v_left2)), (q13, .inl (cI, 10, .inl v_right2)), (q14, .inl (cI, 10, .inl v_place2)), (q15, .inl (cI, 10, .inl v_rings2))]
abbrev rmX3_become : Jvm.Room := { frames := 1, cells := 0, slots := 0, locals := 22 }
theorem hyX3_become : yX3_become.cls ≠ "java/lang/invoke/MethodHandle" ∧ yX3_become.cls ≠ "java/lang/invoke/VarHandle" ∧ (parseMethodDescriptor yX3_become.desc).map (fun d => d.parameters.length) = some 1 := by decide +kernel
set_option maxHeartbeats 4000000 in
set_option maxRecDepth 100000 in
theorem mX3_become (l : Launch) (D : va_G) (cI cZ : ClassId) (q0 : Nat) (q1 : Nat) (q2 : Nat) (q3 : Nat) (q4 : Nat) (q5 : Nat) (q6 : Nat) (q7 : Nat) (q8 : Nat) (q9 : Nat) (q10 : Nat) (q11 : Nat) (q12 : Nat) (q13 : Nat) (q14 : Nat) (q15 : Nat) (v_wreck : Nat → Int32) (v_wood : Nat → Int32) (v_length : Nat → Int32) (v_left : Nat → Int32) (v_right : Nat → Int32) (v_place : Nat → Int32) (v_rings : Nat → Int32) (v_wreck2 : Nat → Int32) (v_wood2 : Nat → Int32) (v_length2 : Nat → Int32) (v_left2 : Nat → Int32) (v_right2 : Nat → Int32) (v_place2 : Nat → Int32) (v_rings2 : Nat → Int32) (z : (Nat → Int32) × (Nat → Int32) × (Nat → Int32) × (Nat → Int32) × (Nat → Int32) × (Nat → Int32) × (Nat → Int32)) (hF : fX3_become v_wreck v_wood v_length v_left v_right v_place v_rings v_wreck2 v_wood2 v_length2 v_left2 v_right2 v_place2 v_rings2 = some z) : mp l yX3_become wtX3_become rmX3_become D cI cZ [.ref q0, .ref q8] (wdX3_become cI cZ q0 q1 q2 q3 q4 q5 q6 q7 q8 q9 q10 q11 q12 q13 q14 q15 v_wreck v_wood v_length v_left v_right v_place v_rings v_wreck2 v_wood2 v_length2 v_left2 v_right2 v_place2 v_rings2) none (wdX3_become cI cZ q0 q1 q2 q3 q4 q5 q6 q7 q8 q9 q10 q11 q12 q13 q14 q15 z.1 z.2.1 z.2.2.1 z.2.2.2.1 z.2.2.2.2.1 z.2.2.2.2.2.1 z.2.2.2.2.2.2 v_wreck2 v_wood2 v_length2 v_left2 v_right2 v_place2 v_rings2) := by
  refine mp_v (lv0 := [(0, .ref q0), (1, .ref q8)]) cX3_become 2 (by decide) rfl (Nat.le_of_ble_eq_true rfl) rfl (fun E h hend0 => ?_)
  have hend : ∀ (z' : (Nat → Int32) × (Nat → Int32) × (Nat → Int32) × (Nat → Int32) × (Nat → Int32) × (Nat → Int32) × (Nat → Int32)), some z' = some z → ∀ (pc : Nat) (lv : List (Nat × Value)), decode cX3_become pc = .ok (.return_, 1) → G l D E 2 0 0 (wdX3_become cI cZ q0 q1 q2 q3 q4 q5 q6 q7 q8 q9 q10 q11 q12 q13 q14 q15 (z'.1) (z'.2.1) (z'.2.2.1) (z'.2.2.2.1) (z'.2.2.2.2.1) (z'.2.2.2.2.2.1) (z'.2.2.2.2.2.2) v_wreck2 v_wood2 v_length2 v_left2 v_right2 v_place2 v_rings2) pc lv [] := fun z' e => by cases e; exact hend0
  clear hend0
  unfold fX3_become at hF
  refine g_aload_n (np := 1) h 1 rfl rfl dX3_become_0 rfl ?_
  refine g_get (np := 4) (T := TX3) h imX3_become_u_X3 8 3 rfl rfl 0 (by decide) (imX3_become_own _ (List.mem_of_getElem? (i := 0) rfl)) rfl dX3_become_1 rfl ?_
  refine g_aload_n (np := 5) h 0 rfl rfl dX3_become_4 rfl ?_
  refine g_get (np := 8) (T := TX3) h imX3_become_u_X3 0 3 rfl rfl 0 (by decide) (imX3_become_own _ (List.mem_of_getElem? (i := 0) rfl)) rfl dX3_become_5 rfl ?_
  obtain ⟨r1, hr1, hF⟩ := Option.bind_eq_some_iff.mp hF
  refine g_callN (np := 11) (Wd' := (wdX3_become cI cZ q0 q1 q2 q3 q4 q5 q6 q7 q8 q9 q10 q11 q12 q13 q14 q15 r1 v_wood v_length v_left v_right v_place v_rings v_wreck2 v_wood2 v_length2 v_left2 v_right2 v_place2 v_rings2)) (As := [.ref q9, .ref q1]) h (mX8_copy l D cI cZ q9 q1 10 10 v_wreck2 v_wreck r1 hr1) gcX3_become_X8_copy rfl ⟨rfl, rfl⟩ (List.mem_of_getElem? (i := 12) rfl) (imX3_become_own _ (List.mem_of_getElem? (i := 2) rfl)) (imX3_become_own _ (List.mem_of_getElem? (i := 1) rfl)) hyX8_copy rfl rfl rfl rfl ⟨Nat.zero_le _, Nat.zero_le _⟩ [9, 1] [0, 2, 3, 4, 5, 6, 7, 8, 10, 11, 12, 13, 14, 15] (N := 16) (by decide +kernel) rfl rfl rfl rfl rfl dX3_become_8 rfl ?_
  refine g_aload_n (np := 12) h 1 rfl rfl dX3_become_11 rfl ?_
  refine g_get (np := 15) (T := TX3) h imX3_become_u_X3 8 3 rfl rfl 1 (by decide) (imX3_become_own _ (List.mem_of_getElem? (i := 3) rfl)) rfl dX3_become_12 rfl ?_
  refine g_aload_n (np := 16) h 0 rfl rfl dX3_become_15 rfl ?_
  refine g_get (np := 19) (T := TX3) h imX3_become_u_X3 0 3 rfl rfl 1 (by decide) (imX3_become_own _ (List.mem_of_getElem? (i := 3) rfl)) rfl dX3_become_16 rfl ?_
  obtain ⟨r2, hr2, hF⟩ := Option.bind_eq_some_iff.mp hF
  refine g_callN (np := 22) (Wd' := (wdX3_become cI cZ q0 q1 q2 q3 q4 q5 q6 q7 q8 q9 q10 q11 q12 q13 q14 q15 r1 r2 v_length v_left v_right v_place v_rings v_wreck2 v_wood2 v_length2 v_left2 v_right2 v_place2 v_rings2)) (As := [.ref q10, .ref q2]) h (mX8_copy l D cI cZ q10 q2 10 10 v_wood2 v_wood r2 hr2) gcX3_become_X8_copy rfl ⟨rfl, rfl⟩ (List.mem_of_getElem? (i := 12) rfl) (imX3_become_own _ (List.mem_of_getElem? (i := 2) rfl)) (imX3_become_own _ (List.mem_of_getElem? (i := 1) rfl)) hyX8_copy rfl rfl rfl rfl ⟨Nat.zero_le _, Nat.zero_le _⟩ [10, 2] [0, 1, 3, 4, 5, 6, 7, 8, 9, 11, 12, 13, 14, 15] (N := 16) (by decide +kernel) rfl rfl rfl rfl rfl dX3_become_19 rfl ?_
  refine g_aload_n (np := 23) h 1 rfl rfl dX3_become_22 rfl ?_
  refine g_get (np := 26) (T := TX3) h imX3_become_u_X3 8 3 rfl rfl 2 (by decide) (imX3_become_own _ (List.mem_of_getElem? (i := 4) rfl)) rfl dX3_become_23 rfl ?_
  refine g_aload_n (np := 27) h 0 rfl rfl dX3_become_26 rfl ?_
  refine g_get (np := 30) (T := TX3) h imX3_become_u_X3 0 3 rfl rfl 2 (by decide) (imX3_become_own _ (List.mem_of_getElem? (i := 4) rfl)) rfl dX3_become_27 rfl ?_
  obtain ⟨r3, hr3, hF⟩ := Option.bind_eq_some_iff.mp hF
  refine g_callN (np := 33) (Wd' := (wdX3_become cI cZ q0 q1 q2 q3 q4 q5 q6 q7 q8 q9 q10 q11 q12 q13 q14 q15 r1 r2 r3 v_left v_right v_place v_rings v_wreck2 v_wood2 v_length2 v_left2 v_right2 v_place2 v_rings2)) (As := [.ref q11, .ref q3]) h (mX8_copy l D cI cZ q11 q3 10 10 v_length2 v_length r3 hr3) gcX3_become_X8_copy rfl ⟨rfl, rfl⟩ (List.mem_of_getElem? (i := 12) rfl) (imX3_become_own _ (List.mem_of_getElem? (i := 2) rfl)) (imX3_become_own _ (List.mem_of_getElem? (i := 1) rfl)) hyX8_copy rfl rfl rfl rfl ⟨Nat.zero_le _, Nat.zero_le _⟩ [11, 3] [0, 1, 2, 4, 5, 6, 7, 8, 9, 10, 12, 13, 14, 15] (N := 16) (by decide +kernel) rfl rfl rfl rfl rfl dX3_become_30 rfl ?_
  refine g_aload_n (np := 34) h 1 rfl rfl dX3_become_33 rfl ?_
  refine g_get (np := 37) (T := TX3) h imX3_become_u_X3 8 3 rfl rfl 3 (by decide) (imX3_become_own _ (List.mem_of_getElem? (i := 5) rfl)) rfl dX3_become_34 rfl ?_
  refine g_aload_n (np := 38) h 0 rfl rfl dX3_become_37 rfl ?_
  refine g_get (np := 41) (T := TX3) h imX3_become_u_X3 0 3 rfl rfl 3 (by decide) (imX3_become_own _ (List.mem_of_getElem? (i := 5) rfl)) rfl dX3_become_38 rfl ?_
  obtain ⟨r4, hr4, hF⟩ := Option.bind_eq_some_iff.mp hF
  refine g_callN (np := 44) (Wd' := (wdX3_become cI cZ q0 q1 q2 q3 q4 q5 q6 q7 q8 q9 q10 q11 q12 q13 q14 q15 r1 r2 r3 r4 v_right v_place v_rings v_wreck2 v_wood2 v_length2 v_left2 v_right2 v_place2 v_rings2)) (As := [.ref q12, .ref q4]) h (mX8_copy l D cI cZ q12 q4 10 10 v_left2 v_left r4 hr4) gcX3_become_X8_copy rfl ⟨rfl, rfl⟩ (List.mem_of_getElem? (i := 12) rfl) (imX3_become_own _ (List.mem_of_getElem? (i := 2) rfl)) (imX3_become_own _ (List.mem_of_getElem? (i := 1) rfl)) hyX8_copy rfl rfl rfl rfl ⟨Nat.zero_le _, Nat.zero_le _⟩ [12, 4] [0, 1, 2, 3, 5, 6, 7, 8, 9, 10, 11, 13, 14, 15] (N := 16) (by decide +kernel) rfl rfl rfl rfl rfl dX3_become_41 rfl ?_
  refine g_aload_n (np := 45) h 1 rfl rfl dX3_become_44 rfl ?_
  refine g_get (np := 48) (T := TX3) h imX3_become_u_X3 8 3 rfl rfl 4 (by decide) (imX3_become_own _ (List.mem_of_getElem? (i := 6) rfl)) rfl dX3_become_45 rfl ?_
  refine g_aload_n (np := 49) h 0 rfl rfl dX3_become_48 rfl ?_
  refine g_get (np := 52) (T := TX3) h imX3_become_u_X3 0 3 rfl rfl 4 (by decide) (imX3_become_own _ (List.mem_of_getElem? (i := 6) rfl)) rfl dX3_become_49 rfl ?_
  obtain ⟨r5, hr5, hF⟩ := Option.bind_eq_some_iff.mp hF
  refine g_callN (np := 55) (Wd' := (wdX3_become cI cZ q0 q1 q2 q3 q4 q5 q6 q7 q8 q9 q10 q11 q12 q13 q14 q15 r1 r2 r3 r4 r5 v_place v_rings v_wreck2 v_wood2 v_length2 v_left2 v_right2 v_place2 v_rings2)) (As := [.ref q13, .ref q5]) h (mX8_copy l D cI cZ q13 q5 10 10 v_right2 v_right r5 hr5) gcX3_become_X8_copy rfl ⟨rfl, rfl⟩ (List.mem_of_getElem? (i := 12) rfl) (imX3_become_own _ (List.mem_of_getElem? (i := 2) rfl)) (imX3_become_own _ (List.mem_of_getElem? (i := 1) rfl)) hyX8_copy rfl rfl rfl rfl ⟨Nat.zero_le _, Nat.zero_le _⟩ [13, 5] [0, 1, 2, 3, 4, 6, 7, 8, 9, 10, 11, 12, 14, 15] (N := 16) (by decide +kernel) rfl rfl rfl rfl rfl dX3_become_52 rfl ?_
  refine g_aload_n (np := 56) h 1 rfl rfl dX3_become_55 rfl ?_
  refine g_get (np := 59) (T := TX3) h imX3_become_u_X3 8 3 rfl rfl 5 (by decide) (imX3_become_own _ (List.mem_of_getElem? (i := 7) rfl)) rfl dX3_become_56 rfl ?_
  refine g_aload_n (np := 60) h 0 rfl rfl dX3_become_59 rfl ?_
  refine g_get (np := 63) (T := TX3) h imX3_become_u_X3 0 3 rfl rfl 5 (by decide) (imX3_become_own _ (List.mem_of_getElem? (i := 7) rfl)) rfl dX3_become_60 rfl ?_
  obtain ⟨r6, hr6, hF⟩ := Option.bind_eq_some_iff.mp hF
  refine g_callN (np := 66) (Wd' := (wdX3_become cI cZ q0 q1 q2 q3 q4 q5 q6 q7 q8 q9 q10 q11 q12 q13 q14 q15 r1 r2 r3 r4 r5 r6 v_rings v_wreck2 v_wood2 v_length2 v_left2 v_right2 v_place2 v_rings2)) (As := [.ref q14, .ref q6]) h (mX8_copy l D cI cZ q14 q6 10 10 v_place2 v_place r6 hr6) gcX3_become_X8_copy rfl ⟨rfl, rfl⟩ (List.mem_of_getElem? (i := 12) rfl) (imX3_become_own _ (List.mem_of_getElem? (i := 2) rfl)) (imX3_become_own _ (List.mem_of_getElem? (i := 1) rfl)) hyX8_copy rfl rfl rfl rfl ⟨Nat.zero_le _, Nat.zero_le _⟩ [14, 6] [0, 1, 2, 3, 4, 5, 7, 8, 9, 10, 11, 12, 13, 15] (N := 16) (by decide +kernel) rfl rfl rfl rfl rfl dX3_become_63 rfl ?_
  refine g_aload_n (np := 67) h 1 rfl rfl dX3_become_66 rfl ?_
  refine g_get (np := 70) (T := TX3) h imX3_become_u_X3 8 3 rfl rfl 6 (by decide) (imX3_become_own _ (List.mem_of_getElem? (i := 8) rfl)) rfl dX3_become_67 rfl ?_
  refine g_aload_n (np := 71) h 0 rfl rfl dX3_become_70 rfl ?_
  refine g_get (np := 74) (T := TX3) h imX3_become_u_X3 0 3 rfl rfl 6 (by decide) (imX3_become_own _ (List.mem_of_getElem? (i := 8) rfl)) rfl dX3_become_71 rfl ?_
  obtain ⟨r7, hr7, hF⟩ := Option.bind_eq_some_iff.mp hF
  refine g_callN (np := 77) (Wd' := (wdX3_become cI cZ q0 q1 q2 q3 q4 q5 q6 q7 q8 q9 q10 q11 q12 q13 q14 q15 r1 r2 r3 r4 r5 r6 r7 v_wreck2 v_wood2 v_length2 v_left2 v_right2 v_place2 v_rings2)) (As := [.ref q15, .ref q7]) h (mX8_copy l D cI cZ q15 q7 10 10 v_rings2 v_rings r7 hr7) gcX3_become_X8_copy rfl ⟨rfl, rfl⟩ (List.mem_of_getElem? (i := 12) rfl) (imX3_become_own _ (List.mem_of_getElem? (i := 2) rfl)) (imX3_become_own _ (List.mem_of_getElem? (i := 1) rfl)) hyX8_copy rfl rfl rfl rfl ⟨Nat.zero_le _, Nat.zero_le _⟩ [15, 7] [0, 1, 2, 3, 4, 5, 6, 8, 9, 10, 11, 12, 13, 14] (N := 16) (by decide +kernel) rfl rfl rfl rfl rfl dX3_become_74 rfl ?_
  exact hend _ hF _ _ dX3_become_77
theorem dX3_detail_0 : decode cX3_detail 0 = .ok (.iload_n 2, 1) := by decide +kernel
theorem dX3_detail_1 : decode cX3_detail 1 = .ok (.tableswitch 93 0 5 #[39, 48, 57, 66, 75, 84], 39) := by decide +kernel
theorem dX3_detail_40 : decode cX3_detail 40 = .ok (.aload_n 0, 1) := by decide +kernel
theorem dX3_detail_41 : decode cX3_detail 41 = .ok (.getfield 9, 3) := by decide +kernel
theorem dX3_detail_44 : decode cX3_detail 44 = .ok (.iload_n 1, 1) := by decide +kernel
theorem dX3_detail_45 : decode cX3_detail 45 = .ok (.invokestatic 41, 3) := by decide +kernel
theorem dX3_detail_48 : decode cX3_detail 48 = .ok (.ireturn, 1) := by decide +kernel
theorem dX3_detail_49 : decode cX3_detail 49 = .ok (.aload_n 0, 1) := by decide +kernel
theorem dX3_detail_50 : decode cX3_detail 50 = .ok (.getfield 15, 3) := by decide +kernel
theorem dX3_detail_53 : decode cX3_detail 53 = .ok (.iload_n 1, 1) := by decide +kernel
theorem dX3_detail_54 : decode cX3_detail 54 = .ok (.invokestatic 41, 3) := by decide +kernel
theorem dX3_detail_57 : decode cX3_detail 57 = .ok (.ireturn, 1) := by decide +kernel
theorem dX3_detail_58 : decode cX3_detail 58 = .ok (.aload_n 0, 1) := by decide +kernel
theorem dX3_detail_59 : decode cX3_detail 59 = .ok (.getfield 18, 3) := by decide +kernel
theorem dX3_detail_62 : decode cX3_detail 62 = .ok (.iload_n 1, 1) := by decide +kernel
theorem dX3_detail_63 : decode cX3_detail 63 = .ok (.invokestatic 41, 3) := by decide +kernel
theorem dX3_detail_66 : decode cX3_detail 66 = .ok (.ireturn, 1) := by decide +kernel
theorem dX3_detail_67 : decode cX3_detail 67 = .ok (.aload_n 0, 1) := by decide +kernel
theorem dX3_detail_68 : decode cX3_detail 68 = .ok (.getfield 21, 3) := by decide +kernel
theorem dX3_detail_71 : decode cX3_detail 71 = .ok (.iload_n 1, 1) := by decide +kernel
theorem dX3_detail_72 : decode cX3_detail 72 = .ok (.invokestatic 41, 3) := by decide +kernel
theorem dX3_detail_75 : decode cX3_detail 75 = .ok (.ireturn, 1) := by decide +kernel
theorem dX3_detail_76 : decode cX3_detail 76 = .ok (.aload_n 0, 1) := by decide +kernel
theorem dX3_detail_77 : decode cX3_detail 77 = .ok (.getfield 24, 3) := by decide +kernel
theorem dX3_detail_80 : decode cX3_detail 80 = .ok (.iload_n 1, 1) := by decide +kernel
theorem dX3_detail_81 : decode cX3_detail 81 = .ok (.invokestatic 41, 3) := by decide +kernel
theorem dX3_detail_84 : decode cX3_detail 84 = .ok (.ireturn, 1) := by decide +kernel
theorem dX3_detail_85 : decode cX3_detail 85 = .ok (.aload_n 0, 1) := by decide +kernel
theorem dX3_detail_86 : decode cX3_detail 86 = .ok (.getfield 27, 3) := by decide +kernel
theorem dX3_detail_89 : decode cX3_detail 89 = .ok (.iload_n 1, 1) := by decide +kernel
theorem dX3_detail_90 : decode cX3_detail 90 = .ok (.invokestatic 41, 3) := by decide +kernel
theorem dX3_detail_93 : decode cX3_detail 93 = .ok (.ireturn, 1) := by decide +kernel
theorem dX3_detail_94 : decode cX3_detail 94 = .ok (.aload_n 0, 1) := by decide +kernel
theorem dX3_detail_95 : decode cX3_detail 95 = .ok (.getfield 30, 3) := by decide +kernel
theorem dX3_detail_98 : decode cX3_detail 98 = .ok (.iload_n 1, 1) := by decide +kernel
theorem dX3_detail_99 : decode cX3_detail 99 = .ok (.invokestatic 41, 3) := by decide +kernel
theorem dX3_detail_102 : decode cX3_detail 102 = .ok (.ireturn, 1) := by decide +kernel
def wtX3_detail : List Cond := .code yX3_detail cX3_detail 3 (some .int) :: (([.fieldLink RX3 9 "DriftKin$Pieces" "wreck" "[I", .static yX8_at, .initialized RX8, .fieldLink RX3 15 "DriftKin$Pieces" "wood" "[I", .fieldLink RX3 18 "DriftKin$Pieces" "length" "[I", .fieldLink RX3 21 "DriftKin$Pieces" "left" "[I", .fieldLink RX3 24 "DriftKin$Pieces" "right" "[I", .fieldLink RX3 27 "DriftKin$Pieces" "place" "[I", .fieldLink RX3 30 "DriftKin$Pieces" "rings" "[I"]) ++ ((u_ws RX3 TX3 7) ++ ((wtX8_at) ++ [])))
theorem imX3_detail_own : ∀ w ∈ ([.fieldLink RX3 9 "DriftKin$Pieces" "wreck" "[I", .static yX8_at, .initialized RX8, .fieldLink RX3 15 "DriftKin$Pieces" "wood" "[I", .fieldLink RX3 18 "DriftKin$Pieces" "length" "[I", .fieldLink RX3 21 "DriftKin$Pieces" "left" "[I", .fieldLink RX3 24 "DriftKin$Pieces" "right" "[I", .fieldLink RX3 27 "DriftKin$Pieces" "place" "[I", .fieldLink RX3 30 "DriftKin$Pieces" "rings" "[I"] : List Cond), w ∈ wtX3_detail := fun w h => List.mem_cons_of_mem _ (inl h)
theorem imX3_detail_u_X3 : ∀ w ∈ (u_ws RX3 TX3 7 : List Cond), w ∈ wtX3_detail := fun w h => List.mem_cons_of_mem _ (inr (inl h))
theorem imX3_detail_c_X8_at : ∀ w ∈ (wtX8_at : List Cond), w ∈ wtX3_detail := fun w h => List.mem_cons_of_mem _ (inr (inr (inl h)))
theorem gdX3_detail : ∀ w ∈ wtX3_detail, Gd w := gdc rfl (gda (gdl (by decide +kernel)) (gda (gdu _ _ _) (gda gdX8_at gdn)))
theorem gcX3_detail_X8_at : GoodIn wtX3_detail (wtX8_at) := fun w h => ⟨imX3_detail_c_X8_at w h, gdX8_at w h⟩
def fX3_detail (v_wreck : Nat → Int32) (v_wood : Nat → Int32) (v_length : Nat → Int32) (v_left : Nat → Int32) (v_right : Nat → Int32) (v_place : Nat → Int32) (v_rings : Nat → Int32) (x1 : Int32) (x2 : Int32) : Option (Int32) :=
  if x2 = (0 : Int32) then
    (fX8_at 10 v_wreck x1).bind (fun r2 =>
      some r2)
  else
    if x2 = (1 : Int32) then
      (fX8_at 10 v_wood x1).bind (fun r3 =>
        some r3)
    else
      if x2 = (2 : Int32) then
        (fX8_at 10 v_length x1).bind (fun r4 =>
          some r4)
      else
        if x2 = (3 : Int32) then
          (fX8_at 10 v_left x1).bind (fun r5 =>
            some r5)
        else
          if x2 = (4 : Int32) then
            (fX8_at 10 v_right x1).bind (fun r6 =>
              some r6)
          else
            if x2 = (5 : Int32) then
              (fX8_at 10 v_place x1).bind (fun r7 =>
                some r7)
            else
              (fX8_at 10 v_rings x1).bind (fun r8 =>
                some r8)
def wdX3_detail (cI cZ : ClassId) (q0 : Nat) (q1 : Nat) (q2 : Nat) (q3 : Nat) (q4 : Nat) (q5 : Nat) (q6 : Nat) (q7 : Nat)  (v_wreck : Nat → Int32) (v_wood : Nat → Int32) (v_length : Nat → Int32) (v_left : Nat → Int32) (v_right : Nat → Int32) (v_place : Nat → Int32) (v_rings : Nat → Int32) : va_W := [(q0, .inr (3, [.ref q1, .ref q2, .ref q3, .ref q4, .ref q5, .ref q6, .ref q7])), (q1, .inl (cI, 10, .inl v_wreck)), (q2, .inl (cI, 10, .inl v_wood)), (q3, .inl (cI, 10, .inl v_length)), (q4, .inl (cI, 10, .inl v_left)), (q5, .inl (cI, 10, .inl v_right)), (q6, .inl (cI, 10, .inl v_place)), (q7, .inl (cI, 10, .inl v_rings))]
abbrev rmX3_detail : Jvm.Room := { frames := 1, cells := 0, slots := 0, locals := 21 }
theorem hyX3_detail : yX3_detail.cls ≠ "java/lang/invoke/MethodHandle" ∧ yX3_detail.cls ≠ "java/lang/invoke/VarHandle" ∧ (parseMethodDescriptor yX3_detail.desc).map (fun d => d.parameters.length) = some 2 := by decide +kernel
set_option maxHeartbeats 4000000 in
set_option maxRecDepth 100000 in
theorem mX3_detail (l : Launch) (D : va_G) (cI cZ : ClassId) (q0 : Nat) (q1 : Nat) (q2 : Nat) (q3 : Nat) (q4 : Nat) (q5 : Nat) (q6 : Nat) (q7 : Nat) (v_wreck : Nat → Int32) (v_wood : Nat → Int32) (v_length : Nat → Int32) (v_left : Nat → Int32) (v_right : Nat → Int32) (v_place : Nat → Int32) (v_rings : Nat → Int32) (x1 : Int32) (x2 : Int32) (z : Int32) (hF : fX3_detail v_wreck v_wood v_length v_left v_right v_place v_rings x1 x2 = some z) : mp l yX3_detail wtX3_detail rmX3_detail D cI cZ [.ref q0, .int x1, .int x2] (wdX3_detail cI cZ q0 q1 q2 q3 q4 q5 q6 q7 v_wreck v_wood v_length v_left v_right v_place v_rings) (some (.int z)) (wdX3_detail cI cZ q0 q1 q2 q3 q4 q5 q6 q7 v_wreck v_wood v_length v_left v_right v_place v_rings) := by
  refine mp_i (lv0 := [(0, .ref q0), (1, .int x1), (2, .int x2)]) cX3_detail 3 z (by decide) rfl (Nat.le_of_ble_eq_true rfl) rfl (fun E h hend0 => ?_)
  have hend : ∀ (z' : Int32), some z' = some z → ∀ (pc : Nat) (lv : List (Nat × Value)), decode cX3_detail pc = .ok (.ireturn, 1) → G l D E 3 0 0 (wdX3_detail cI cZ q0 q1 q2 q3 q4 q5 q6 q7 v_wreck v_wood v_length v_left v_right v_place v_rings) pc lv [.int z'] := fun z' e => by cases e; exact hend0
  clear hend0
  unfold fX3_detail at hF
  refine g_iload_n (np := 1) h 2 rfl rfl dX3_detail_0 rfl ?_
  by_cases c1_0 : x2 = (0 : Int32)
  · rw [if_pos c1_0] at hF
    refine g_tsIn (np := 40) h dX3_detail_1 0 (by rw [c1_0]; decide) (by decide) (by decide) rfl rfl ?_
    refine g_aload_n (np := 41) h 0 rfl rfl dX3_detail_40 rfl ?_
    refine g_get (np := 44) (T := TX3) h imX3_detail_u_X3 0 3 rfl rfl 0 (by decide) (imX3_detail_own _ (List.mem_of_getElem? (i := 0) rfl)) rfl dX3_detail_41 rfl ?_
    refine g_iload_n (np := 45) h 1 rfl rfl dX3_detail_44 rfl ?_
    obtain ⟨r2, hr2, hF⟩ := Option.bind_eq_some_iff.mp hF
    refine g_callN (np := 48) (Wd' := (wdX3_detail cI cZ q0 q1 q2 q3 q4 q5 q6 q7 v_wreck v_wood v_length v_left v_right v_place v_rings)) (As := [.ref q1, .int x1]) h (mX8_at l D cI cZ q1 10 v_wreck x1 r2 hr2) gcX3_detail_X8_at rfl ⟨rfl, rfl⟩ (List.mem_of_getElem? (i := 19) rfl) (imX3_detail_own _ (List.mem_of_getElem? (i := 2) rfl)) (imX3_detail_own _ (List.mem_of_getElem? (i := 1) rfl)) hyX8_at rfl rfl rfl rfl ⟨Nat.zero_le _, Nat.zero_le _⟩ [1] [0, 2, 3, 4, 5, 6, 7] (N := 8) (by decide +kernel) rfl rfl rfl rfl rfl dX3_detail_45 rfl ?_
    exact hend _ hF _ _ dX3_detail_48
  rw [if_neg c1_0] at hF
  by_cases c1_1 : x2 = (1 : Int32)
  · rw [if_pos c1_1] at hF
    refine g_tsIn (np := 49) h dX3_detail_1 1 (by rw [c1_1]; decide) (by decide) (by decide) rfl rfl ?_
    refine g_aload_n (np := 50) h 0 rfl rfl dX3_detail_49 rfl ?_
    refine g_get (np := 53) (T := TX3) h imX3_detail_u_X3 0 3 rfl rfl 1 (by decide) (imX3_detail_own _ (List.mem_of_getElem? (i := 3) rfl)) rfl dX3_detail_50 rfl ?_
    refine g_iload_n (np := 54) h 1 rfl rfl dX3_detail_53 rfl ?_
    obtain ⟨r3, hr3, hF⟩ := Option.bind_eq_some_iff.mp hF
    refine g_callN (np := 57) (Wd' := (wdX3_detail cI cZ q0 q1 q2 q3 q4 q5 q6 q7 v_wreck v_wood v_length v_left v_right v_place v_rings)) (As := [.ref q2, .int x1]) h (mX8_at l D cI cZ q2 10 v_wood x1 r3 hr3) gcX3_detail_X8_at rfl ⟨rfl, rfl⟩ (List.mem_of_getElem? (i := 19) rfl) (imX3_detail_own _ (List.mem_of_getElem? (i := 2) rfl)) (imX3_detail_own _ (List.mem_of_getElem? (i := 1) rfl)) hyX8_at rfl rfl rfl rfl ⟨Nat.zero_le _, Nat.zero_le _⟩ [2] [0, 1, 3, 4, 5, 6, 7] (N := 8) (by decide +kernel) rfl rfl rfl rfl rfl dX3_detail_54 rfl ?_
    exact hend _ hF _ _ dX3_detail_57
  rw [if_neg c1_1] at hF
  by_cases c1_2 : x2 = (2 : Int32)
  · rw [if_pos c1_2] at hF
    refine g_tsIn (np := 58) h dX3_detail_1 2 (by rw [c1_2]; decide) (by decide) (by decide) rfl rfl ?_
    refine g_aload_n (np := 59) h 0 rfl rfl dX3_detail_58 rfl ?_
    refine g_get (np := 62) (T := TX3) h imX3_detail_u_X3 0 3 rfl rfl 2 (by decide) (imX3_detail_own _ (List.mem_of_getElem? (i := 4) rfl)) rfl dX3_detail_59 rfl ?_
    refine g_iload_n (np := 63) h 1 rfl rfl dX3_detail_62 rfl ?_
    obtain ⟨r4, hr4, hF⟩ := Option.bind_eq_some_iff.mp hF
    refine g_callN (np := 66) (Wd' := (wdX3_detail cI cZ q0 q1 q2 q3 q4 q5 q6 q7 v_wreck v_wood v_length v_left v_right v_place v_rings)) (As := [.ref q3, .int x1]) h (mX8_at l D cI cZ q3 10 v_length x1 r4 hr4) gcX3_detail_X8_at rfl ⟨rfl, rfl⟩ (List.mem_of_getElem? (i := 19) rfl) (imX3_detail_own _ (List.mem_of_getElem? (i := 2) rfl)) (imX3_detail_own _ (List.mem_of_getElem? (i := 1) rfl)) hyX8_at rfl rfl rfl rfl ⟨Nat.zero_le _, Nat.zero_le _⟩ [3] [0, 1, 2, 4, 5, 6, 7] (N := 8) (by decide +kernel) rfl rfl rfl rfl rfl dX3_detail_63 rfl ?_
    exact hend _ hF _ _ dX3_detail_66
  rw [if_neg c1_2] at hF
  by_cases c1_3 : x2 = (3 : Int32)
  · rw [if_pos c1_3] at hF
    refine g_tsIn (np := 67) h dX3_detail_1 3 (by rw [c1_3]; decide) (by decide) (by decide) rfl rfl ?_
    refine g_aload_n (np := 68) h 0 rfl rfl dX3_detail_67 rfl ?_
    refine g_get (np := 71) (T := TX3) h imX3_detail_u_X3 0 3 rfl rfl 3 (by decide) (imX3_detail_own _ (List.mem_of_getElem? (i := 5) rfl)) rfl dX3_detail_68 rfl ?_
    refine g_iload_n (np := 72) h 1 rfl rfl dX3_detail_71 rfl ?_
    obtain ⟨r5, hr5, hF⟩ := Option.bind_eq_some_iff.mp hF
    refine g_callN (np := 75) (Wd' := (wdX3_detail cI cZ q0 q1 q2 q3 q4 q5 q6 q7 v_wreck v_wood v_length v_left v_right v_place v_rings)) (As := [.ref q4, .int x1]) h (mX8_at l D cI cZ q4 10 v_left x1 r5 hr5) gcX3_detail_X8_at rfl ⟨rfl, rfl⟩ (List.mem_of_getElem? (i := 19) rfl) (imX3_detail_own _ (List.mem_of_getElem? (i := 2) rfl)) (imX3_detail_own _ (List.mem_of_getElem? (i := 1) rfl)) hyX8_at rfl rfl rfl rfl ⟨Nat.zero_le _, Nat.zero_le _⟩ [4] [0, 1, 2, 3, 5, 6, 7] (N := 8) (by decide +kernel) rfl rfl rfl rfl rfl dX3_detail_72 rfl ?_
    exact hend _ hF _ _ dX3_detail_75
  rw [if_neg c1_3] at hF
  by_cases c1_4 : x2 = (4 : Int32)
  · rw [if_pos c1_4] at hF
    refine g_tsIn (np := 76) h dX3_detail_1 4 (by rw [c1_4]; decide) (by decide) (by decide) rfl rfl ?_
    refine g_aload_n (np := 77) h 0 rfl rfl dX3_detail_76 rfl ?_
    refine g_get (np := 80) (T := TX3) h imX3_detail_u_X3 0 3 rfl rfl 4 (by decide) (imX3_detail_own _ (List.mem_of_getElem? (i := 6) rfl)) rfl dX3_detail_77 rfl ?_
    refine g_iload_n (np := 81) h 1 rfl rfl dX3_detail_80 rfl ?_
    obtain ⟨r6, hr6, hF⟩ := Option.bind_eq_some_iff.mp hF
    refine g_callN (np := 84) (Wd' := (wdX3_detail cI cZ q0 q1 q2 q3 q4 q5 q6 q7 v_wreck v_wood v_length v_left v_right v_place v_rings)) (As := [.ref q5, .int x1]) h (mX8_at l D cI cZ q5 10 v_right x1 r6 hr6) gcX3_detail_X8_at rfl ⟨rfl, rfl⟩ (List.mem_of_getElem? (i := 19) rfl) (imX3_detail_own _ (List.mem_of_getElem? (i := 2) rfl)) (imX3_detail_own _ (List.mem_of_getElem? (i := 1) rfl)) hyX8_at rfl rfl rfl rfl ⟨Nat.zero_le _, Nat.zero_le _⟩ [5] [0, 1, 2, 3, 4, 6, 7] (N := 8) (by decide +kernel) rfl rfl rfl rfl rfl dX3_detail_81 rfl ?_
    exact hend _ hF _ _ dX3_detail_84
  rw [if_neg c1_4] at hF
  by_cases c1_5 : x2 = (5 : Int32)
  · rw [if_pos c1_5] at hF
    refine g_tsIn (np := 85) h dX3_detail_1 5 (by rw [c1_5]; decide) (by decide) (by decide) rfl rfl ?_
    refine g_aload_n (np := 86) h 0 rfl rfl dX3_detail_85 rfl ?_
    refine g_get (np := 89) (T := TX3) h imX3_detail_u_X3 0 3 rfl rfl 5 (by decide) (imX3_detail_own _ (List.mem_of_getElem? (i := 7) rfl)) rfl dX3_detail_86 rfl ?_
    refine g_iload_n (np := 90) h 1 rfl rfl dX3_detail_89 rfl ?_
    obtain ⟨r7, hr7, hF⟩ := Option.bind_eq_some_iff.mp hF
    refine g_callN (np := 93) (Wd' := (wdX3_detail cI cZ q0 q1 q2 q3 q4 q5 q6 q7 v_wreck v_wood v_length v_left v_right v_place v_rings)) (As := [.ref q6, .int x1]) h (mX8_at l D cI cZ q6 10 v_place x1 r7 hr7) gcX3_detail_X8_at rfl ⟨rfl, rfl⟩ (List.mem_of_getElem? (i := 19) rfl) (imX3_detail_own _ (List.mem_of_getElem? (i := 2) rfl)) (imX3_detail_own _ (List.mem_of_getElem? (i := 1) rfl)) hyX8_at rfl rfl rfl rfl ⟨Nat.zero_le _, Nat.zero_le _⟩ [6] [0, 1, 2, 3, 4, 5, 7] (N := 8) (by decide +kernel) rfl rfl rfl rfl rfl dX3_detail_90 rfl ?_
    exact hend _ hF _ _ dX3_detail_93
  rw [if_neg c1_5] at hF
  refine g_tsOut (np := 94) h dX3_detail_1 (by have a0 := lv_neT c1_0 (a := 0) (by decide); have a1 := lv_neT c1_1 (a := 1) (by decide); have a2 := lv_neT c1_2 (a := 2) (by decide); have a3 := lv_neT c1_3 (a := 3) (by decide); have a4 := lv_neT c1_4 (a := 4) (by decide); have a5 := lv_neT c1_5 (a := 5) (by decide); omega) rfl ?_
  refine g_aload_n (np := 95) h 0 rfl rfl dX3_detail_94 rfl ?_
  refine g_get (np := 98) (T := TX3) h imX3_detail_u_X3 0 3 rfl rfl 6 (by decide) (imX3_detail_own _ (List.mem_of_getElem? (i := 8) rfl)) rfl dX3_detail_95 rfl ?_
  refine g_iload_n (np := 99) h 1 rfl rfl dX3_detail_98 rfl ?_
  obtain ⟨r8, hr8, hF⟩ := Option.bind_eq_some_iff.mp hF
  refine g_callN (np := 102) (Wd' := (wdX3_detail cI cZ q0 q1 q2 q3 q4 q5 q6 q7 v_wreck v_wood v_length v_left v_right v_place v_rings)) (As := [.ref q7, .int x1]) h (mX8_at l D cI cZ q7 10 v_rings x1 r8 hr8) gcX3_detail_X8_at rfl ⟨rfl, rfl⟩ (List.mem_of_getElem? (i := 19) rfl) (imX3_detail_own _ (List.mem_of_getElem? (i := 2) rfl)) (imX3_detail_own _ (List.mem_of_getElem? (i := 1) rfl)) hyX8_at rfl rfl rfl rfl ⟨Nat.zero_le _, Nat.zero_le _⟩ [7] [0, 1, 2, 3, 4, 5, 6] (N := 8) (by decide +kernel) rfl rfl rfl rfl rfl dX3_detail_99 rfl ?_
  exact hend _ hF _ _ dX3_detail_102
theorem dX3_bitsAt_0 : decode cX3_bitsAt 0 = .ok (.iconst 0, 1) := by decide +kernel
theorem dX3_bitsAt_1 : decode cX3_bitsAt 1 = .ok (.istore_n 2, 1) := by decide +kernel
theorem dX3_bitsAt_2 : decode cX3_bitsAt 2 = .ok (.iconst 0, 1) := by decide +kernel
theorem dX3_bitsAt_3 : decode cX3_bitsAt 3 = .ok (.istore_n 3, 1) := by decide +kernel
theorem dX3_bitsAt_4 : decode cX3_bitsAt 4 = .ok (.iload_n 3, 1) := by decide +kernel
theorem dX3_bitsAt_5 : decode cX3_bitsAt 5 = .ok (.aload_n 0, 1) := by decide +kernel
theorem dX3_bitsAt_6 : decode cX3_bitsAt 6 = .ok (.getfield 27, 3) := by decide +kernel
theorem dX3_bitsAt_9 : decode cX3_bitsAt 9 = .ok (.arraylength, 1) := by decide +kernel
theorem dX3_bitsAt_10 : decode cX3_bitsAt 10 = .ok (.if_icmp .ge 25, 3) := by decide +kernel
theorem dX3_bitsAt_13 : decode cX3_bitsAt 13 = .ok (.aload_n 0, 1) := by decide +kernel
theorem dX3_bitsAt_14 : decode cX3_bitsAt 14 = .ok (.getfield 27, 3) := by decide +kernel
theorem dX3_bitsAt_17 : decode cX3_bitsAt 17 = .ok (.iload_n 3, 1) := by decide +kernel
theorem dX3_bitsAt_18 : decode cX3_bitsAt 18 = .ok (.iaload, 1) := by decide +kernel
theorem dX3_bitsAt_19 : decode cX3_bitsAt 19 = .ok (.iload_n 1, 1) := by decide +kernel
theorem dX3_bitsAt_20 : decode cX3_bitsAt 20 = .ok (.if_icmp .ne 9, 3) := by decide +kernel
theorem dX3_bitsAt_23 : decode cX3_bitsAt 23 = .ok (.iload_n 2, 1) := by decide +kernel
theorem dX3_bitsAt_24 : decode cX3_bitsAt 24 = .ok (.iconst 1, 1) := by decide +kernel
theorem dX3_bitsAt_25 : decode cX3_bitsAt 25 = .ok (.iload_n 3, 1) := by decide +kernel
theorem dX3_bitsAt_26 : decode cX3_bitsAt 26 = .ok (.ishl, 1) := by decide +kernel
theorem dX3_bitsAt_27 : decode cX3_bitsAt 27 = .ok (.ior, 1) := by decide +kernel
theorem dX3_bitsAt_28 : decode cX3_bitsAt 28 = .ok (.istore_n 2, 1) := by decide +kernel
theorem dX3_bitsAt_29 : decode cX3_bitsAt 29 = .ok (.iinc 3 1, 3) := by decide +kernel
theorem dX3_bitsAt_32 : decode cX3_bitsAt 32 = .ok (.goto (-28), 3) := by decide +kernel
theorem dX3_bitsAt_35 : decode cX3_bitsAt 35 = .ok (.iload_n 2, 1) := by decide +kernel
theorem dX3_bitsAt_36 : decode cX3_bitsAt 36 = .ok (.ireturn, 1) := by decide +kernel
def wtX3_bitsAt : List Cond := .code yX3_bitsAt cX3_bitsAt 4 (some .int) :: (([.fieldLink RX3 27 "DriftKin$Pieces" "place" "[I"]) ++ ((u_ws RX3 TX3 7) ++ []))
theorem imX3_bitsAt_own : ∀ w ∈ ([.fieldLink RX3 27 "DriftKin$Pieces" "place" "[I"] : List Cond), w ∈ wtX3_bitsAt := fun w h => List.mem_cons_of_mem _ (inl h)
theorem imX3_bitsAt_u_X3 : ∀ w ∈ (u_ws RX3 TX3 7 : List Cond), w ∈ wtX3_bitsAt := fun w h => List.mem_cons_of_mem _ (inr (inl h))
theorem gdX3_bitsAt : ∀ w ∈ wtX3_bitsAt, Gd w := gdc rfl (gda (gdl (by decide +kernel)) (gda (gdu _ _ _) gdn))
def fX3_bitsAt_4 (v_place : Nat → Int32) (x1 : Int32) : Nat → Int32 → Int32 → Option (Int32)
  | 0, _, _ => none
  | n + 1, x2, x3 =>
    if (10 : Int32) ≤ x3 then
      some x2
    else
      chk x3 10 (
        if (rd v_place x3) = x1 then
          fX3_bitsAt_4 v_place x1 n (x2 ||| (jshl (1 : Int32) x3)) (x3 + (1 : Int32))
        else
          fX3_bitsAt_4 v_place x1 n x2 (x3 + (1 : Int32)))
def fX3_bitsAt (v_place : Nat → Int32) (x1 : Int32) : Option (Int32) :=
  fX3_bitsAt_4 v_place x1 2000 (0 : Int32) (0 : Int32)
def wdX3_bitsAt (cI cZ : ClassId) (q0 : Nat) (q1 : Nat) (d2 : Nat) (d3 : Nat) (d4 : Nat) (d5 : Nat) (d6 : Nat) (d7 : Nat)  (v_place : Nat → Int32) : va_W := [(q0, .inr (3, [.ref d2, .ref d3, .ref d4, .ref d5, .ref d6, .ref q1, .ref d7])), (q1, .inl (cI, 10, .inl v_place))]
abbrev rmX3_bitsAt : Jvm.Room := { frames := 0, cells := 0, slots := 0, locals := 0 }
theorem hyX3_bitsAt : yX3_bitsAt.cls ≠ "java/lang/invoke/MethodHandle" ∧ yX3_bitsAt.cls ≠ "java/lang/invoke/VarHandle" ∧ (parseMethodDescriptor yX3_bitsAt.desc).map (fun d => d.parameters.length) = some 1 := by decide +kernel
set_option maxHeartbeats 4000000 in
set_option maxRecDepth 100000 in
theorem mX3_bitsAt (l : Launch) (D : va_G) (cI cZ : ClassId) (q0 : Nat) (q1 : Nat) (d2 : Nat) (d3 : Nat) (d4 : Nat) (d5 : Nat) (d6 : Nat) (d7 : Nat) (v_place : Nat → Int32) (x1 : Int32) (z : Int32) (hF : fX3_bitsAt v_place x1 = some z) : mp l yX3_bitsAt wtX3_bitsAt rmX3_bitsAt D cI cZ [.ref q0, .int x1] (wdX3_bitsAt cI cZ q0 q1 d2 d3 d4 d5 d6 d7 v_place) (some (.int z)) (wdX3_bitsAt cI cZ q0 q1 d2 d3 d4 d5 d6 d7 v_place) := by
  refine mp_i (lv0 := [(0, .ref q0), (1, .int x1)]) cX3_bitsAt 4 z (by decide) rfl (Nat.le_of_ble_eq_true rfl) rfl (fun E h hend0 => ?_)
  have hend : ∀ (z' : Int32), some z' = some z → ∀ (pc : Nat) (lv : List (Nat × Value)), decode cX3_bitsAt pc = .ok (.ireturn, 1) → G l D E 4 0 0 (wdX3_bitsAt cI cZ q0 q1 d2 d3 d4 d5 d6 d7 v_place) pc lv [.int z'] := fun z' e => by cases e; exact hend0
  clear hend0
  have hL4 : ∀ (n4 : Nat) (x2 : Int32) (x3 : Int32), fX3_bitsAt_4 v_place x1 n4 x2 x3 = some z → G l D E 4 0 0 (wdX3_bitsAt cI cZ q0 q1 d2 d3 d4 d5 d6 d7 v_place) 4 [(0, .ref q0), (1, .int x1), (2, .int x2), (3, .int x3)] [] := by
    intro n4
    induction n4 with
    | zero =>
      intro x2 x3 hF
      rw [fX3_bitsAt_4] at hF
      cases hF
    | succ n4 ih4 =>
      intro x2 x3 hF
      rw [fX3_bitsAt_4] at hF
      refine g_iload_n (np := 5) h 3 rfl rfl dX3_bitsAt_4 rfl ?_
      refine g_aload_n (np := 6) h 0 rfl rfl dX3_bitsAt_5 rfl ?_
      refine g_get (np := 9) (T := TX3) h imX3_bitsAt_u_X3 0 3 rfl rfl 5 (by decide) (imX3_bitsAt_own _ (List.mem_of_getElem? (i := 0) rfl)) rfl dX3_bitsAt_6 rfl ?_
      refine g_alen (np := 10) (v := (10 : Int32)) h 1 rfl (by decide) dX3_bitsAt_9 rfl ?_
      refine g_icmp_ge h hF dX3_bitsAt_10 (np := 13) rfl (tg := 35) rfl (fun c1001 hF => ?_) (fun c1001 hF => ?_)
      · refine g_iload_n (np := 36) h 2 rfl rfl dX3_bitsAt_35 rfl ?_
        exact hend _ hF _ _ dX3_bitsAt_36
      · refine g_aload_n (np := 14) h 0 rfl rfl dX3_bitsAt_13 rfl ?_
        refine g_get (np := 17) (T := TX3) h imX3_bitsAt_u_X3 0 3 rfl rfl 5 (by decide) (imX3_bitsAt_own _ (List.mem_of_getElem? (i := 0) rfl)) rfl dX3_bitsAt_14 rfl ?_
        refine g_iload_n (np := 18) h 3 rfl rfl dX3_bitsAt_17 rfl ?_
        refine g_iald (np := 19) h 1 rfl hF dX3_bitsAt_18 rfl (fun hi1002 hF => ?_)
        refine g_iload_n (np := 20) h 1 rfl rfl dX3_bitsAt_19 rfl ?_
        refine g_icmp_ne h hF dX3_bitsAt_20 (np := 23) rfl (tg := 29) rfl (fun c1003 hF => ?_) (fun c1003 hF => ?_)
        · refine g_iinc (np := 32) (v := (x3 + (1 : Int32))) (lv' := [(3, .int (x3 + (1 : Int32))), (0, .ref q0), (1, .int x1), (2, .int x2)]) h 3 rfl rfl (by decide) rfl dX3_bitsAt_29 rfl ?_
          refine g_goto h dX3_bitsAt_32 (np := 4) rfl ?_
          refine g_lv [1, 2, 3, 0] rfl ?_
          exact ih4 x2 (x3 + (1 : Int32)) hF
        · refine g_iload_n (np := 24) h 2 rfl rfl dX3_bitsAt_23 rfl ?_
          refine g_iconst (np := 25) (v := (1 : Int32)) h (by decide) dX3_bitsAt_24 rfl ?_
          refine g_iload_n (np := 26) h 3 rfl rfl dX3_bitsAt_25 rfl ?_
          refine g_ishl (np := 27) h dX3_bitsAt_26 rfl ?_
          refine g_ior (np := 28) h dX3_bitsAt_27 rfl ?_
          refine g_istore_n (np := 29) (lv' := [(2, .int (x2 ||| (jshl (1 : Int32) x3))), (0, .ref q0), (1, .int x1), (3, .int x3)]) h rfl (by decide) rfl dX3_bitsAt_28 rfl ?_
          refine g_iinc (np := 32) (v := (x3 + (1 : Int32))) (lv' := [(3, .int (x3 + (1 : Int32))), (2, .int (x2 ||| (jshl (1 : Int32) x3))), (0, .ref q0), (1, .int x1)]) h 3 rfl rfl (by decide) rfl dX3_bitsAt_29 rfl ?_
          refine g_goto h dX3_bitsAt_32 (np := 4) rfl ?_
          refine g_lv [2, 3, 1, 0] rfl ?_
          exact ih4 (x2 ||| (jshl (1 : Int32) x3)) (x3 + (1 : Int32)) hF
  unfold fX3_bitsAt at hF
  refine g_iconst (np := 1) (v := (0 : Int32)) h (by decide) dX3_bitsAt_0 rfl ?_
  refine g_istore_n (np := 2) (lv' := [(2, .int (0 : Int32)), (0, .ref q0), (1, .int x1)]) h rfl (by decide) rfl dX3_bitsAt_1 rfl ?_
  refine g_iconst (np := 3) (v := (0 : Int32)) h (by decide) dX3_bitsAt_2 rfl ?_
  refine g_istore_n (np := 4) (lv' := [(3, .int (0 : Int32)), (2, .int (0 : Int32)), (0, .ref q0), (1, .int x1)]) h rfl (by decide) rfl dX3_bitsAt_3 rfl ?_
  refine g_lv [2, 3, 1, 0] rfl ?_
  exact hL4 _ (0 : Int32) (0 : Int32) hF
theorem dX3_bitsNotBurnt_0 : decode cX3_bitsNotBurnt 0 = .ok (.sipush 1023, 3) := by decide +kernel
theorem dX3_bitsNotBurnt_3 : decode cX3_bitsNotBurnt 3 = .ok (.aload_n 0, 1) := by decide +kernel
theorem dX3_bitsNotBurnt_4 : decode cX3_bitsNotBurnt 4 = .ok (.iconst 3, 1) := by decide +kernel
theorem dX3_bitsNotBurnt_5 : decode cX3_bitsNotBurnt 5 = .ok (.invokevirtual 45, 3) := by decide +kernel
theorem dX3_bitsNotBurnt_8 : decode cX3_bitsNotBurnt 8 = .ok (.iconst (-1), 1) := by decide +kernel
theorem dX3_bitsNotBurnt_9 : decode cX3_bitsNotBurnt 9 = .ok (.ixor, 1) := by decide +kernel
theorem dX3_bitsNotBurnt_10 : decode cX3_bitsNotBurnt 10 = .ok (.iand, 1) := by decide +kernel
theorem dX3_bitsNotBurnt_11 : decode cX3_bitsNotBurnt 11 = .ok (.ireturn, 1) := by decide +kernel
def wtX3_bitsNotBurnt : List Cond := .code yX3_bitsNotBurnt cX3_bitsNotBurnt 1 (some .int) :: (([]) ++ ((wsV RX3 45 RX3 yX3_bitsAt wtX3_bitsAt) ++ []))
theorem imX3_bitsNotBurnt_own : ∀ w ∈ ([] : List Cond), w ∈ wtX3_bitsNotBurnt := fun w h => List.mem_cons_of_mem _ (inl h)
theorem imX3_bitsNotBurnt_c_X3_bitsAt : ∀ w ∈ (wsV RX3 45 RX3 yX3_bitsAt wtX3_bitsAt : List Cond), w ∈ wtX3_bitsNotBurnt := fun w h => List.mem_cons_of_mem _ (inr (inl h))
theorem gdX3_bitsNotBurnt : ∀ w ∈ wtX3_bitsNotBurnt, Gd w := gdc rfl (gda (gdl (by decide +kernel)) (gda (gda (gdl (by decide +kernel)) gdX3_bitsAt) gdn))
theorem gcX3_bitsNotBurnt_X3_bitsAt : GoodIn wtX3_bitsNotBurnt (wsV RX3 45 RX3 yX3_bitsAt wtX3_bitsAt) := fun w h => ⟨imX3_bitsNotBurnt_c_X3_bitsAt w h, (gda (gdl (by decide +kernel)) gdX3_bitsAt) w h⟩
def fX3_bitsNotBurnt (v_place : Nat → Int32) : Option (Int32) :=
  (fX3_bitsAt v_place (3 : Int32)).bind (fun r1 =>
    some ((1023 : Int32) &&& (r1 ^^^ (-1 : Int32))))
def wdX3_bitsNotBurnt (cI cZ : ClassId) (q0 : Nat) (q1 : Nat) (d2 : Nat) (d3 : Nat) (d4 : Nat) (d5 : Nat) (d6 : Nat) (d7 : Nat)  (v_place : Nat → Int32) : va_W := [(q0, .inr (3, [.ref d2, .ref d3, .ref d4, .ref d5, .ref d6, .ref q1, .ref d7])), (q1, .inl (cI, 10, .inl v_place))]
abbrev rmX3_bitsNotBurnt : Jvm.Room := { frames := 1, cells := 0, slots := 0, locals := 23 }
theorem hyX3_bitsNotBurnt : yX3_bitsNotBurnt.cls ≠ "java/lang/invoke/MethodHandle" ∧ yX3_bitsNotBurnt.cls ≠ "java/lang/invoke/VarHandle" ∧ (parseMethodDescriptor yX3_bitsNotBurnt.desc).map (fun d => d.parameters.length) = some 0 := by decide +kernel
set_option maxHeartbeats 4000000 in
set_option maxRecDepth 100000 in
theorem mX3_bitsNotBurnt (l : Launch) (D : va_G) (cI cZ : ClassId) (q0 : Nat) (q1 : Nat) (d2 : Nat) (d3 : Nat) (d4 : Nat) (d5 : Nat) (d6 : Nat) (d7 : Nat) (v_place : Nat → Int32) (z : Int32) (hF : fX3_bitsNotBurnt v_place = some z) : mp l yX3_bitsNotBurnt wtX3_bitsNotBurnt rmX3_bitsNotBurnt D cI cZ [.ref q0] (wdX3_bitsNotBurnt cI cZ q0 q1 d2 d3 d4 d5 d6 d7 v_place) (some (.int z)) (wdX3_bitsNotBurnt cI cZ q0 q1 d2 d3 d4 d5 d6 d7 v_place) := by
  refine mp_i (lv0 := [(0, .ref q0)]) cX3_bitsNotBurnt 1 z (by decide) rfl (Nat.le_of_ble_eq_true rfl) rfl (fun E h hend0 => ?_)
  have hend : ∀ (z' : Int32), some z' = some z → ∀ (pc : Nat) (lv : List (Nat × Value)), decode cX3_bitsNotBurnt pc = .ok (.ireturn, 1) → G l D E 1 0 0 (wdX3_bitsNotBurnt cI cZ q0 q1 d2 d3 d4 d5 d6 d7 v_place) pc lv [.int z'] := fun z' e => by cases e; exact hend0
  clear hend0
  unfold fX3_bitsNotBurnt at hF
  refine g_sipush (np := 3) (v := (1023 : Int32)) h (by decide) dX3_bitsNotBurnt_0 rfl ?_
  refine g_aload_n (np := 4) h 0 rfl rfl dX3_bitsNotBurnt_3 rfl ?_
  refine g_iconst (np := 5) (v := (3 : Int32)) h (by decide) dX3_bitsNotBurnt_4 rfl ?_
  obtain ⟨r1, hr1, hF⟩ := Option.bind_eq_some_iff.mp hF
  refine g_callV (np := 8) (Wd' := (wdX3_bitsNotBurnt cI cZ q0 q1 d2 d3 d4 d5 d6 d7 v_place)) (As := [.int (3 : Int32)]) h (mX3_bitsAt l D cI cZ q0 q1 d2 d3 d4 d5 d6 d7 v_place (3 : Int32) r1 hr1) gcX3_bitsNotBurnt_X3_bitsAt rfl ⟨rfl, rfl⟩ ⟨rfl, hyX3_bitsAt⟩ rfl 3 0 rfl rfl rfl rfl rfl rfl ⟨Nat.zero_le _, Nat.zero_le _⟩ [0, 1] [] (N := 2) (by decide +kernel) rfl rfl rfl rfl rfl dX3_bitsNotBurnt_5 rfl ?_
  refine g_iconst (np := 9) (v := (-1 : Int32)) h (by decide) dX3_bitsNotBurnt_8 rfl ?_
  refine g_ixor (np := 10) h dX3_bitsNotBurnt_9 rfl ?_
  refine g_iand (np := 11) h dX3_bitsNotBurnt_10 rfl ?_
  exact hend _ hF _ _ dX3_bitsNotBurnt_11
theorem dX3_lengthOf_0 : decode cX3_lengthOf 0 = .ok (.iconst 0, 1) := by decide +kernel
theorem dX3_lengthOf_1 : decode cX3_lengthOf 1 = .ok (.istore_n 2, 1) := by decide +kernel
theorem dX3_lengthOf_2 : decode cX3_lengthOf 2 = .ok (.iconst 0, 1) := by decide +kernel
theorem dX3_lengthOf_3 : decode cX3_lengthOf 3 = .ok (.istore_n 3, 1) := by decide +kernel
theorem dX3_lengthOf_4 : decode cX3_lengthOf 4 = .ok (.iload_n 3, 1) := by decide +kernel
theorem dX3_lengthOf_5 : decode cX3_lengthOf 5 = .ok (.aload_n 0, 1) := by decide +kernel
theorem dX3_lengthOf_6 : decode cX3_lengthOf 6 = .ok (.getfield 18, 3) := by decide +kernel
theorem dX3_lengthOf_9 : decode cX3_lengthOf 9 = .ok (.arraylength, 1) := by decide +kernel
theorem dX3_lengthOf_10 : decode cX3_lengthOf 10 = .ok (.if_icmp .ge 26, 3) := by decide +kernel
theorem dX3_lengthOf_13 : decode cX3_lengthOf 13 = .ok (.iload_n 1, 1) := by decide +kernel
theorem dX3_lengthOf_14 : decode cX3_lengthOf 14 = .ok (.iload_n 3, 1) := by decide +kernel
theorem dX3_lengthOf_15 : decode cX3_lengthOf 15 = .ok (.invokestatic 49, 3) := by decide +kernel
theorem dX3_lengthOf_18 : decode cX3_lengthOf 18 = .ok (.ifCond .eq 12, 3) := by decide +kernel
theorem dX3_lengthOf_21 : decode cX3_lengthOf 21 = .ok (.iload_n 2, 1) := by decide +kernel
theorem dX3_lengthOf_22 : decode cX3_lengthOf 22 = .ok (.aload_n 0, 1) := by decide +kernel
theorem dX3_lengthOf_23 : decode cX3_lengthOf 23 = .ok (.getfield 18, 3) := by decide +kernel
theorem dX3_lengthOf_26 : decode cX3_lengthOf 26 = .ok (.iload_n 3, 1) := by decide +kernel
theorem dX3_lengthOf_27 : decode cX3_lengthOf 27 = .ok (.iaload, 1) := by decide +kernel
theorem dX3_lengthOf_28 : decode cX3_lengthOf 28 = .ok (.iadd, 1) := by decide +kernel
theorem dX3_lengthOf_29 : decode cX3_lengthOf 29 = .ok (.istore_n 2, 1) := by decide +kernel
theorem dX3_lengthOf_30 : decode cX3_lengthOf 30 = .ok (.iinc 3 1, 3) := by decide +kernel
theorem dX3_lengthOf_33 : decode cX3_lengthOf 33 = .ok (.goto (-29), 3) := by decide +kernel
theorem dX3_lengthOf_36 : decode cX3_lengthOf 36 = .ok (.iload_n 2, 1) := by decide +kernel
theorem dX3_lengthOf_37 : decode cX3_lengthOf 37 = .ok (.ireturn, 1) := by decide +kernel
def wtX3_lengthOf : List Cond := .code yX3_lengthOf cX3_lengthOf 4 (some .int) :: (([.fieldLink RX3 18 "DriftKin$Pieces" "length" "[I", .static yX8_has, .initialized RX8]) ++ ((u_ws RX3 TX3 7) ++ ((wtX8_has) ++ [])))
theorem imX3_lengthOf_own : ∀ w ∈ ([.fieldLink RX3 18 "DriftKin$Pieces" "length" "[I", .static yX8_has, .initialized RX8] : List Cond), w ∈ wtX3_lengthOf := fun w h => List.mem_cons_of_mem _ (inl h)
theorem imX3_lengthOf_u_X3 : ∀ w ∈ (u_ws RX3 TX3 7 : List Cond), w ∈ wtX3_lengthOf := fun w h => List.mem_cons_of_mem _ (inr (inl h))
theorem imX3_lengthOf_c_X8_has : ∀ w ∈ (wtX8_has : List Cond), w ∈ wtX3_lengthOf := fun w h => List.mem_cons_of_mem _ (inr (inr (inl h)))
theorem gdX3_lengthOf : ∀ w ∈ wtX3_lengthOf, Gd w := gdc rfl (gda (gdl (by decide +kernel)) (gda (gdu _ _ _) (gda gdX8_has gdn)))
theorem gcX3_lengthOf_X8_has : GoodIn wtX3_lengthOf (wtX8_has) := fun w h => ⟨imX3_lengthOf_c_X8_has w h, gdX8_has w h⟩
def fX3_lengthOf_4 (v_length : Nat → Int32) (x1 : Int32) : Nat → Int32 → Int32 → Option (Int32)
  | 0, _, _ => none
  | n + 1, x2, x3 =>
    if (10 : Int32) ≤ x3 then
      some x2
    else
      (fX8_has x1 x3).bind (fun r1002 =>
        if r1002 = (0 : Int32) then
          fX3_lengthOf_4 v_length x1 n x2 (x3 + (1 : Int32))
        else
          chk x3 10 (
            fX3_lengthOf_4 v_length x1 n (x2 + (rd v_length x3)) (x3 + (1 : Int32))))
def fX3_lengthOf (v_length : Nat → Int32) (x1 : Int32) : Option (Int32) :=
  fX3_lengthOf_4 v_length x1 2000 (0 : Int32) (0 : Int32)
def wdX3_lengthOf (cI cZ : ClassId) (q0 : Nat) (q1 : Nat) (d2 : Nat) (d3 : Nat) (d4 : Nat) (d5 : Nat) (d6 : Nat) (d7 : Nat)  (v_length : Nat → Int32) : va_W := [(q0, .inr (3, [.ref d2, .ref d3, .ref q1, .ref d4, .ref d5, .ref d6, .ref d7])), (q1, .inl (cI, 10, .inl v_length))]
abbrev rmX3_lengthOf : Jvm.Room := { frames := 1, cells := 0, slots := 0, locals := 21 }
theorem hyX3_lengthOf : yX3_lengthOf.cls ≠ "java/lang/invoke/MethodHandle" ∧ yX3_lengthOf.cls ≠ "java/lang/invoke/VarHandle" ∧ (parseMethodDescriptor yX3_lengthOf.desc).map (fun d => d.parameters.length) = some 1 := by decide +kernel
set_option maxHeartbeats 4000000 in
set_option maxRecDepth 100000 in
theorem mX3_lengthOf (l : Launch) (D : va_G) (cI cZ : ClassId) (q0 : Nat) (q1 : Nat) (d2 : Nat) (d3 : Nat) (d4 : Nat) (d5 : Nat) (d6 : Nat) (d7 : Nat) (v_length : Nat → Int32) (x1 : Int32) (z : Int32) (hF : fX3_lengthOf v_length x1 = some z) : mp l yX3_lengthOf wtX3_lengthOf rmX3_lengthOf D cI cZ [.ref q0, .int x1] (wdX3_lengthOf cI cZ q0 q1 d2 d3 d4 d5 d6 d7 v_length) (some (.int z)) (wdX3_lengthOf cI cZ q0 q1 d2 d3 d4 d5 d6 d7 v_length) := by
  refine mp_i (lv0 := [(0, .ref q0), (1, .int x1)]) cX3_lengthOf 4 z (by decide) rfl (Nat.le_of_ble_eq_true rfl) rfl (fun E h hend0 => ?_)
  have hend : ∀ (z' : Int32), some z' = some z → ∀ (pc : Nat) (lv : List (Nat × Value)), decode cX3_lengthOf pc = .ok (.ireturn, 1) → G l D E 4 0 0 (wdX3_lengthOf cI cZ q0 q1 d2 d3 d4 d5 d6 d7 v_length) pc lv [.int z'] := fun z' e => by cases e; exact hend0
  clear hend0
  have hL4 : ∀ (n4 : Nat) (x2 : Int32) (x3 : Int32), fX3_lengthOf_4 v_length x1 n4 x2 x3 = some z → G l D E 4 0 0 (wdX3_lengthOf cI cZ q0 q1 d2 d3 d4 d5 d6 d7 v_length) 4 [(0, .ref q0), (1, .int x1), (2, .int x2), (3, .int x3)] [] := by
    intro n4
    induction n4 with
    | zero =>
      intro x2 x3 hF
      rw [fX3_lengthOf_4] at hF
      cases hF
    | succ n4 ih4 =>
      intro x2 x3 hF
      rw [fX3_lengthOf_4] at hF
      refine g_iload_n (np := 5) h 3 rfl rfl dX3_lengthOf_4 rfl ?_
      refine g_aload_n (np := 6) h 0 rfl rfl dX3_lengthOf_5 rfl ?_
      refine g_get (np := 9) (T := TX3) h imX3_lengthOf_u_X3 0 3 rfl rfl 2 (by decide) (imX3_lengthOf_own _ (List.mem_of_getElem? (i := 0) rfl)) rfl dX3_lengthOf_6 rfl ?_
      refine g_alen (np := 10) (v := (10 : Int32)) h 1 rfl (by decide) dX3_lengthOf_9 rfl ?_
      refine g_icmp_ge h hF dX3_lengthOf_10 (np := 13) rfl (tg := 36) rfl (fun c1001 hF => ?_) (fun c1001 hF => ?_)
      · refine g_iload_n (np := 37) h 2 rfl rfl dX3_lengthOf_36 rfl ?_
        exact hend _ hF _ _ dX3_lengthOf_37
      · refine g_iload_n (np := 14) h 1 rfl rfl dX3_lengthOf_13 rfl ?_
        refine g_iload_n (np := 15) h 3 rfl rfl dX3_lengthOf_14 rfl ?_
        obtain ⟨r1002, hr1002, hF⟩ := Option.bind_eq_some_iff.mp hF
        refine g_callN (np := 18) (Wd' := (wdX3_lengthOf cI cZ q0 q1 d2 d3 d4 d5 d6 d7 v_length)) (As := [.int x1, .int x3]) h (mX8_has l D cI cZ x1 x3 r1002 hr1002) gcX3_lengthOf_X8_has rfl ⟨rfl, rfl⟩ (List.mem_of_getElem? (i := 23) rfl) (imX3_lengthOf_own _ (List.mem_of_getElem? (i := 2) rfl)) (imX3_lengthOf_own _ (List.mem_of_getElem? (i := 1) rfl)) hyX8_has rfl rfl rfl rfl ⟨Nat.zero_le _, Nat.zero_le _⟩ [] [0, 1] (N := 2) (by decide +kernel) rfl rfl rfl rfl rfl dX3_lengthOf_15 rfl ?_
        refine g_if_eq h hF dX3_lengthOf_18 (np := 21) rfl (tg := 30) rfl (fun c1003 hF => ?_) (fun c1003 hF => ?_)
        · refine g_iinc (np := 33) (v := (x3 + (1 : Int32))) (lv' := [(3, .int (x3 + (1 : Int32))), (0, .ref q0), (1, .int x1), (2, .int x2)]) h 3 rfl rfl (by decide) rfl dX3_lengthOf_30 rfl ?_
          refine g_goto h dX3_lengthOf_33 (np := 4) rfl ?_
          refine g_lv [1, 2, 3, 0] rfl ?_
          exact ih4 x2 (x3 + (1 : Int32)) hF
        · refine g_iload_n (np := 22) h 2 rfl rfl dX3_lengthOf_21 rfl ?_
          refine g_aload_n (np := 23) h 0 rfl rfl dX3_lengthOf_22 rfl ?_
          refine g_get (np := 26) (T := TX3) h imX3_lengthOf_u_X3 0 3 rfl rfl 2 (by decide) (imX3_lengthOf_own _ (List.mem_of_getElem? (i := 0) rfl)) rfl dX3_lengthOf_23 rfl ?_
          refine g_iload_n (np := 27) h 3 rfl rfl dX3_lengthOf_26 rfl ?_
          refine g_iald (np := 28) h 1 rfl hF dX3_lengthOf_27 rfl (fun hi1004 hF => ?_)
          refine g_iadd (np := 29) h dX3_lengthOf_28 rfl ?_
          refine g_istore_n (np := 30) (lv' := [(2, .int (x2 + (rd v_length x3))), (0, .ref q0), (1, .int x1), (3, .int x3)]) h rfl (by decide) rfl dX3_lengthOf_29 rfl ?_
          refine g_iinc (np := 33) (v := (x3 + (1 : Int32))) (lv' := [(3, .int (x3 + (1 : Int32))), (2, .int (x2 + (rd v_length x3))), (0, .ref q0), (1, .int x1)]) h 3 rfl rfl (by decide) rfl dX3_lengthOf_30 rfl ?_
          refine g_goto h dX3_lengthOf_33 (np := 4) rfl ?_
          refine g_lv [2, 3, 1, 0] rfl ?_
          exact ih4 (x2 + (rd v_length x3)) (x3 + (1 : Int32)) hF
  unfold fX3_lengthOf at hF
  refine g_iconst (np := 1) (v := (0 : Int32)) h (by decide) dX3_lengthOf_0 rfl ?_
  refine g_istore_n (np := 2) (lv' := [(2, .int (0 : Int32)), (0, .ref q0), (1, .int x1)]) h rfl (by decide) rfl dX3_lengthOf_1 rfl ?_
  refine g_iconst (np := 3) (v := (0 : Int32)) h (by decide) dX3_lengthOf_2 rfl ?_
  refine g_istore_n (np := 4) (lv' := [(3, .int (0 : Int32)), (2, .int (0 : Int32)), (0, .ref q0), (1, .int x1)]) h rfl (by decide) rfl dX3_lengthOf_3 rfl ?_
  refine g_lv [2, 3, 1, 0] rfl ?_
  exact hL4 _ (0 : Int32) (0 : Int32) hF
theorem dX3_joins_0 : decode cX3_joins 0 = .ok (.iload_n 1, 1) := by decide +kernel
theorem dX3_joins_1 : decode cX3_joins 1 = .ok (.iload_n 2, 1) := by decide +kernel
theorem dX3_joins_2 : decode cX3_joins 2 = .ok (.if_icmp .eq 45, 3) := by decide +kernel
theorem dX3_joins_5 : decode cX3_joins 5 = .ok (.aload_n 0, 1) := by decide +kernel
theorem dX3_joins_6 : decode cX3_joins 6 = .ok (.getfield 15, 3) := by decide +kernel
theorem dX3_joins_9 : decode cX3_joins 9 = .ok (.iload_n 1, 1) := by decide +kernel
theorem dX3_joins_10 : decode cX3_joins 10 = .ok (.invokestatic 41, 3) := by decide +kernel
theorem dX3_joins_13 : decode cX3_joins 13 = .ok (.aload_n 0, 1) := by decide +kernel
theorem dX3_joins_14 : decode cX3_joins 14 = .ok (.getfield 15, 3) := by decide +kernel
theorem dX3_joins_17 : decode cX3_joins 17 = .ok (.iload_n 2, 1) := by decide +kernel
theorem dX3_joins_18 : decode cX3_joins 18 = .ok (.invokestatic 41, 3) := by decide +kernel
theorem dX3_joins_21 : decode cX3_joins 21 = .ok (.if_icmp .ne 26, 3) := by decide +kernel
theorem dX3_joins_24 : decode cX3_joins 24 = .ok (.aload_n 0, 1) := by decide +kernel
theorem dX3_joins_25 : decode cX3_joins 25 = .ok (.getfield 24, 3) := by decide +kernel
theorem dX3_joins_28 : decode cX3_joins 28 = .ok (.iload_n 1, 1) := by decide +kernel
theorem dX3_joins_29 : decode cX3_joins 29 = .ok (.invokestatic 41, 3) := by decide +kernel
theorem dX3_joins_32 : decode cX3_joins 32 = .ok (.aload_n 0, 1) := by decide +kernel
theorem dX3_joins_33 : decode cX3_joins 33 = .ok (.getfield 21, 3) := by decide +kernel
theorem dX3_joins_36 : decode cX3_joins 36 = .ok (.iload_n 2, 1) := by decide +kernel
theorem dX3_joins_37 : decode cX3_joins 37 = .ok (.invokestatic 41, 3) := by decide +kernel
theorem dX3_joins_40 : decode cX3_joins 40 = .ok (.if_icmp .ne 7, 3) := by decide +kernel
theorem dX3_joins_43 : decode cX3_joins 43 = .ok (.iconst 1, 1) := by decide +kernel
theorem dX3_joins_44 : decode cX3_joins 44 = .ok (.goto 4, 3) := by decide +kernel
theorem dX3_joins_47 : decode cX3_joins 47 = .ok (.iconst 0, 1) := by decide +kernel
theorem dX3_joins_48 : decode cX3_joins 48 = .ok (.ireturn, 1) := by decide +kernel
def wtX3_joins : List Cond := .code yX3_joins cX3_joins 3 (some .boolean) :: (([.fieldLink RX3 15 "DriftKin$Pieces" "wood" "[I", .static yX8_at, .initialized RX8, .fieldLink RX3 24 "DriftKin$Pieces" "right" "[I", .fieldLink RX3 21 "DriftKin$Pieces" "left" "[I"]) ++ ((u_ws RX3 TX3 7) ++ ((wtX8_at) ++ [])))
theorem imX3_joins_own : ∀ w ∈ ([.fieldLink RX3 15 "DriftKin$Pieces" "wood" "[I", .static yX8_at, .initialized RX8, .fieldLink RX3 24 "DriftKin$Pieces" "right" "[I", .fieldLink RX3 21 "DriftKin$Pieces" "left" "[I"] : List Cond), w ∈ wtX3_joins := fun w h => List.mem_cons_of_mem _ (inl h)
theorem imX3_joins_u_X3 : ∀ w ∈ (u_ws RX3 TX3 7 : List Cond), w ∈ wtX3_joins := fun w h => List.mem_cons_of_mem _ (inr (inl h))
theorem imX3_joins_c_X8_at : ∀ w ∈ (wtX8_at : List Cond), w ∈ wtX3_joins := fun w h => List.mem_cons_of_mem _ (inr (inr (inl h)))
theorem gdX3_joins : ∀ w ∈ wtX3_joins, Gd w := gdc rfl (gda (gdl (by decide +kernel)) (gda (gdu _ _ _) (gda gdX8_at gdn)))
theorem gcX3_joins_X8_at : GoodIn wtX3_joins (wtX8_at) := fun w h => ⟨imX3_joins_c_X8_at w h, gdX8_at w h⟩
def fX3_joins (v_wood : Nat → Int32) (v_left : Nat → Int32) (v_right : Nat → Int32) (x1 : Int32) (x2 : Int32) : Option (Int32) :=
  if x1 = x2 then
    some (0 : Int32)
  else
    (fX8_at 10 v_wood x1).bind (fun r2 =>
      (fX8_at 10 v_wood x2).bind (fun r3 =>
        if r2 = r3 then
          (fX8_at 10 v_right x1).bind (fun r5 =>
            (fX8_at 10 v_left x2).bind (fun r6 =>
              if r5 = r6 then
                some (1 : Int32)
              else
                some (0 : Int32)))
        else
          some (0 : Int32)))
def wdX3_joins (cI cZ : ClassId) (q0 : Nat) (q1 : Nat) (q2 : Nat) (q3 : Nat) (d4 : Nat) (d5 : Nat) (d6 : Nat) (d7 : Nat)  (v_wood : Nat → Int32) (v_left : Nat → Int32) (v_right : Nat → Int32) : va_W := [(q0, .inr (3, [.ref d4, .ref q1, .ref d5, .ref q2, .ref q3, .ref d6, .ref d7])), (q1, .inl (cI, 10, .inl v_wood)), (q2, .inl (cI, 10, .inl v_left)), (q3, .inl (cI, 10, .inl v_right))]
abbrev rmX3_joins : Jvm.Room := { frames := 1, cells := 0, slots := 0, locals := 21 }
theorem hyX3_joins : yX3_joins.cls ≠ "java/lang/invoke/MethodHandle" ∧ yX3_joins.cls ≠ "java/lang/invoke/VarHandle" ∧ (parseMethodDescriptor yX3_joins.desc).map (fun d => d.parameters.length) = some 2 := by decide +kernel
set_option maxHeartbeats 4000000 in
set_option maxRecDepth 100000 in
theorem mX3_joins (l : Launch) (D : va_G) (cI cZ : ClassId) (q0 : Nat) (q1 : Nat) (q2 : Nat) (q3 : Nat) (d4 : Nat) (d5 : Nat) (d6 : Nat) (d7 : Nat) (v_wood : Nat → Int32) (v_left : Nat → Int32) (v_right : Nat → Int32) (x1 : Int32) (x2 : Int32) (z : Int32) (hF : fX3_joins v_wood v_left v_right x1 x2 = some z) : mp l yX3_joins wtX3_joins rmX3_joins D cI cZ [.ref q0, .int x1, .int x2] (wdX3_joins cI cZ q0 q1 q2 q3 d4 d5 d6 d7 v_wood v_left v_right) (some (.int z)) (wdX3_joins cI cZ q0 q1 q2 q3 d4 d5 d6 d7 v_wood v_left v_right) := by
  refine mp_z (lv0 := [(0, .ref q0), (1, .int x1), (2, .int x2)]) cX3_joins 3 z (by decide) rfl (Nat.le_of_ble_eq_true rfl) rfl (fun E h hend0 => ?_)
  have hend : ∀ (z' : Int32), some z' = some z → ∀ (pc : Nat) (lv : List (Nat × Value)), z' = z' &&& 1 → decode cX3_joins pc = .ok (.ireturn, 1) → G l D E 3 0 0 (wdX3_joins cI cZ q0 q1 q2 q3 d4 d5 d6 d7 v_wood v_left v_right) pc lv [.int z'] := fun z' e => by cases e; exact hend0
  clear hend0
  unfold fX3_joins at hF
  refine g_iload_n (np := 1) h 1 rfl rfl dX3_joins_0 rfl ?_
  refine g_iload_n (np := 2) h 2 rfl rfl dX3_joins_1 rfl ?_
  refine g_icmp_eq h hF dX3_joins_2 (np := 5) rfl (tg := 47) rfl (fun c1 hF => ?_) (fun c1 hF => ?_)
  · refine g_iconst (np := 48) (v := (0 : Int32)) h (by decide) dX3_joins_47 rfl ?_
    exact hend _ hF _ _ (by decide) dX3_joins_48
  · refine g_aload_n (np := 6) h 0 rfl rfl dX3_joins_5 rfl ?_
    refine g_get (np := 9) (T := TX3) h imX3_joins_u_X3 0 3 rfl rfl 1 (by decide) (imX3_joins_own _ (List.mem_of_getElem? (i := 0) rfl)) rfl dX3_joins_6 rfl ?_
    refine g_iload_n (np := 10) h 1 rfl rfl dX3_joins_9 rfl ?_
    obtain ⟨r2, hr2, hF⟩ := Option.bind_eq_some_iff.mp hF
    refine g_callN (np := 13) (Wd' := (wdX3_joins cI cZ q0 q1 q2 q3 d4 d5 d6 d7 v_wood v_left v_right)) (As := [.ref q1, .int x1]) h (mX8_at l D cI cZ q1 10 v_wood x1 r2 hr2) gcX3_joins_X8_at rfl ⟨rfl, rfl⟩ (List.mem_of_getElem? (i := 19) rfl) (imX3_joins_own _ (List.mem_of_getElem? (i := 2) rfl)) (imX3_joins_own _ (List.mem_of_getElem? (i := 1) rfl)) hyX8_at rfl rfl rfl rfl ⟨Nat.zero_le _, Nat.zero_le _⟩ [1] [0, 2, 3] (N := 4) (by decide +kernel) rfl rfl rfl rfl rfl dX3_joins_10 rfl ?_
    refine g_aload_n (np := 14) h 0 rfl rfl dX3_joins_13 rfl ?_
    refine g_get (np := 17) (T := TX3) h imX3_joins_u_X3 0 3 rfl rfl 1 (by decide) (imX3_joins_own _ (List.mem_of_getElem? (i := 0) rfl)) rfl dX3_joins_14 rfl ?_
    refine g_iload_n (np := 18) h 2 rfl rfl dX3_joins_17 rfl ?_
    obtain ⟨r3, hr3, hF⟩ := Option.bind_eq_some_iff.mp hF
    refine g_callN (np := 21) (Wd' := (wdX3_joins cI cZ q0 q1 q2 q3 d4 d5 d6 d7 v_wood v_left v_right)) (As := [.ref q1, .int x2]) h (mX8_at l D cI cZ q1 10 v_wood x2 r3 hr3) gcX3_joins_X8_at rfl ⟨rfl, rfl⟩ (List.mem_of_getElem? (i := 19) rfl) (imX3_joins_own _ (List.mem_of_getElem? (i := 2) rfl)) (imX3_joins_own _ (List.mem_of_getElem? (i := 1) rfl)) hyX8_at rfl rfl rfl rfl ⟨Nat.zero_le _, Nat.zero_le _⟩ [1] [0, 2, 3] (N := 4) (by decide +kernel) rfl rfl rfl rfl rfl dX3_joins_18 rfl ?_
    refine g_icmp_ne h hF dX3_joins_21 (np := 24) rfl (tg := 47) rfl (fun c4 hF => ?_) (fun c4 hF => ?_)
    · refine g_iconst (np := 48) (v := (0 : Int32)) h (by decide) dX3_joins_47 rfl ?_
      exact hend _ hF _ _ (by decide) dX3_joins_48
    · refine g_aload_n (np := 25) h 0 rfl rfl dX3_joins_24 rfl ?_
      refine g_get (np := 28) (T := TX3) h imX3_joins_u_X3 0 3 rfl rfl 4 (by decide) (imX3_joins_own _ (List.mem_of_getElem? (i := 3) rfl)) rfl dX3_joins_25 rfl ?_
      refine g_iload_n (np := 29) h 1 rfl rfl dX3_joins_28 rfl ?_
      obtain ⟨r5, hr5, hF⟩ := Option.bind_eq_some_iff.mp hF
      refine g_callN (np := 32) (Wd' := (wdX3_joins cI cZ q0 q1 q2 q3 d4 d5 d6 d7 v_wood v_left v_right)) (As := [.ref q3, .int x1]) h (mX8_at l D cI cZ q3 10 v_right x1 r5 hr5) gcX3_joins_X8_at rfl ⟨rfl, rfl⟩ (List.mem_of_getElem? (i := 19) rfl) (imX3_joins_own _ (List.mem_of_getElem? (i := 2) rfl)) (imX3_joins_own _ (List.mem_of_getElem? (i := 1) rfl)) hyX8_at rfl rfl rfl rfl ⟨Nat.zero_le _, Nat.zero_le _⟩ [3] [0, 1, 2] (N := 4) (by decide +kernel) rfl rfl rfl rfl rfl dX3_joins_29 rfl ?_
      refine g_aload_n (np := 33) h 0 rfl rfl dX3_joins_32 rfl ?_
      refine g_get (np := 36) (T := TX3) h imX3_joins_u_X3 0 3 rfl rfl 3 (by decide) (imX3_joins_own _ (List.mem_of_getElem? (i := 4) rfl)) rfl dX3_joins_33 rfl ?_
      refine g_iload_n (np := 37) h 2 rfl rfl dX3_joins_36 rfl ?_
      obtain ⟨r6, hr6, hF⟩ := Option.bind_eq_some_iff.mp hF
      refine g_callN (np := 40) (Wd' := (wdX3_joins cI cZ q0 q1 q2 q3 d4 d5 d6 d7 v_wood v_left v_right)) (As := [.ref q2, .int x2]) h (mX8_at l D cI cZ q2 10 v_left x2 r6 hr6) gcX3_joins_X8_at rfl ⟨rfl, rfl⟩ (List.mem_of_getElem? (i := 19) rfl) (imX3_joins_own _ (List.mem_of_getElem? (i := 2) rfl)) (imX3_joins_own _ (List.mem_of_getElem? (i := 1) rfl)) hyX8_at rfl rfl rfl rfl ⟨Nat.zero_le _, Nat.zero_le _⟩ [2] [0, 1, 3] (N := 4) (by decide +kernel) rfl rfl rfl rfl rfl dX3_joins_37 rfl ?_
      refine g_icmp_ne h hF dX3_joins_40 (np := 43) rfl (tg := 47) rfl (fun c7 hF => ?_) (fun c7 hF => ?_)
      · refine g_iconst (np := 48) (v := (0 : Int32)) h (by decide) dX3_joins_47 rfl ?_
        exact hend _ hF _ _ (by decide) dX3_joins_48
      · refine g_iconst (np := 44) (v := (1 : Int32)) h (by decide) dX3_joins_43 rfl ?_
        refine g_goto h dX3_joins_44 (np := 48) rfl ?_
        exact hend _ hF _ _ (by decide) dX3_joins_48
theorem dX6_become_0 : decode cX6_become 0 = .ok (.aload_n 1, 1) := by decide +kernel
theorem dX6_become_1 : decode cX6_become 1 = .ok (.getfield 9, 3) := by decide +kernel
theorem dX6_become_4 : decode cX6_become 4 = .ok (.aload_n 0, 1) := by decide +kernel
theorem dX6_become_5 : decode cX6_become 5 = .ok (.getfield 9, 3) := by decide +kernel
theorem dX6_become_8 : decode cX6_become 8 = .ok (.invokestatic 25, 3) := by decide +kernel
theorem dX6_become_11 : decode cX6_become 11 = .ok (.aload_n 1, 1) := by decide +kernel
theorem dX6_become_12 : decode cX6_become 12 = .ok (.getfield 15, 3) := by decide +kernel
theorem dX6_become_15 : decode cX6_become 15 = .ok (.aload_n 0, 1) := by decide +kernel
theorem dX6_become_16 : decode cX6_become 16 = .ok (.getfield 15, 3) := by decide +kernel
theorem dX6_become_19 : decode cX6_become 19 = .ok (.invokestatic 25, 3) := by decide +kernel
theorem dX6_become_22 : decode cX6_become 22 = .ok (.aload_n 1, 1) := by decide +kernel
theorem dX6_become_23 : decode cX6_become 23 = .ok (.getfield 18, 3) := by decide +kernel
theorem dX6_become_26 : decode cX6_become 26 = .ok (.aload_n 0, 1) := by decide +kernel
theorem dX6_become_27 : decode cX6_become 27 = .ok (.getfield 18, 3) := by decide +kernel
theorem dX6_become_30 : decode cX6_become 30 = .ok (.invokestatic 25, 3) := by decide +kernel
theorem dX6_become_33 : decode cX6_become 33 = .ok (.aload_n 0, 1) := by decide +kernel
theorem dX6_become_34 : decode cX6_become 34 = .ok (.aload_n 1, 1) := by decide +kernel
theorem dX6_become_35 : decode cX6_become 35 = .ok (.getfield 21, 3) := by decide +kernel
theorem dX6_become_38 : decode cX6_become 38 = .ok (.putfield 21, 3) := by decide +kernel
theorem dX6_become_41 : decode cX6_become 41 = .ok (.return_, 1) := by decide +kernel
def wtX6_become : List Cond := .code yX6_become cX6_become 2 none :: (([.fieldLink RX6 9 "DriftKin$Sights" "house" "[I", .static yX8_copy, .initialized RX8, .fieldLink RX6 15 "DriftKin$Sights" "reach" "[I", .fieldLink RX6 18 "DriftKin$Sights" "sounded" "[I", .fieldLink RX6 21 "DriftKin$Sights" "count" "I"]) ++ ((u_ws RX6 TX6 4) ++ ((wtX8_copy) ++ [])))
theorem imX6_become_own : ∀ w ∈ ([.fieldLink RX6 9 "DriftKin$Sights" "house" "[I", .static yX8_copy, .initialized RX8, .fieldLink RX6 15 "DriftKin$Sights" "reach" "[I", .fieldLink RX6 18 "DriftKin$Sights" "sounded" "[I", .fieldLink RX6 21 "DriftKin$Sights" "count" "I"] : List Cond), w ∈ wtX6_become := fun w h => List.mem_cons_of_mem _ (inl h)
theorem imX6_become_u_X6 : ∀ w ∈ (u_ws RX6 TX6 4 : List Cond), w ∈ wtX6_become := fun w h => List.mem_cons_of_mem _ (inr (inl h))
theorem imX6_become_c_X8_copy : ∀ w ∈ (wtX8_copy : List Cond), w ∈ wtX6_become := fun w h => List.mem_cons_of_mem _ (inr (inr (inl h)))
theorem gdX6_become : ∀ w ∈ wtX6_become, Gd w := gdc rfl (gda (gdl (by decide +kernel)) (gda (gdu _ _ _) (gda gdX8_copy gdn)))
theorem gcX6_become_X8_copy : GoodIn wtX6_become (wtX8_copy) := fun w h => ⟨imX6_become_c_X8_copy w h, gdX8_copy w h⟩
def fX6_become (v_count : Int32) (v_house : Nat → Int32) (v_reach : Nat → Int32) (v_sounded : Nat → Int32) (v_count2 : Int32) (v_house2 : Nat → Int32) (v_reach2 : Nat → Int32) (v_sounded2 : Nat → Int32) : Option (Int32 × (Nat → Int32) × (Nat → Int32) × (Nat → Int32)) :=
  (fX8_copy 8 8 v_house2 v_house).bind (fun r1 =>
    (fX8_copy 8 8 v_reach2 v_reach).bind (fun r2 =>
      (fX8_copy 8 8 v_sounded2 v_sounded).bind (fun r3 =>
        some (v_count2, r1, r2, r3))))
def wdX6_become (cI cZ : ClassId) (q0 : Nat) (q1 : Nat) (q2 : Nat) (q3 : Nat) (q4 : Nat) (q5 : Nat) (q6 : Nat) (q7 : Nat)  (v_count : Int32) (v_house : Nat → Int32) (v_reach : Nat → Int32) (v_sounded : Nat → Int32) (v_count2 : Int32) (v_house2 : Nat → Int32) (v_reach2 : Nat → Int32) (v_sounded2 : Nat → Int32) : va_W := [(q0, .inr (6, [.ref q1, .ref q2, .ref q3, .int v_count])), (q1, .inl (cI, 8, .inl v_house)), (q2, .inl (cI, 8, .inl v_reach)), (q3, .inl (cI, 8, .inl v_sounded)), (q4, .inr (6, [.ref q5, .ref q6, .ref q7, .int v_count2])), (q5, .inl (cI, 8, .inl v_house2)), (q6, .inl (cI, 8, .inl v_reach2)), (q7, .inl (cI, 8, .inl v_sounded2))]
abbrev rmX6_become : Jvm.Room := { frames := 1, cells := 0, slots := 0, locals := 22 }
theorem hyX6_become : yX6_become.cls ≠ "java/lang/invoke/MethodHandle" ∧ yX6_become.cls ≠ "java/lang/invoke/VarHandle" ∧ (parseMethodDescriptor yX6_become.desc).map (fun d => d.parameters.length) = some 1 := by decide +kernel
set_option maxHeartbeats 4000000 in
set_option maxRecDepth 100000 in
theorem mX6_become (l : Launch) (D : va_G) (cI cZ : ClassId) (q0 : Nat) (q1 : Nat) (q2 : Nat) (q3 : Nat) (q4 : Nat) (q5 : Nat) (q6 : Nat) (q7 : Nat) (v_count : Int32) (v_house : Nat → Int32) (v_reach : Nat → Int32) (v_sounded : Nat → Int32) (v_count2 : Int32) (v_house2 : Nat → Int32) (v_reach2 : Nat → Int32) (v_sounded2 : Nat → Int32) (z : Int32 × (Nat → Int32) × (Nat → Int32) × (Nat → Int32)) (hF : fX6_become v_count v_house v_reach v_sounded v_count2 v_house2 v_reach2 v_sounded2 = some z) : mp l yX6_become wtX6_become rmX6_become D cI cZ [.ref q0, .ref q4] (wdX6_become cI cZ q0 q1 q2 q3 q4 q5 q6 q7 v_count v_house v_reach v_sounded v_count2 v_house2 v_reach2 v_sounded2) none (wdX6_become cI cZ q0 q1 q2 q3 q4 q5 q6 q7 z.1 z.2.1 z.2.2.1 z.2.2.2 v_count2 v_house2 v_reach2 v_sounded2) := by
  refine mp_v (lv0 := [(0, .ref q0), (1, .ref q4)]) cX6_become 2 (by decide) rfl (Nat.le_of_ble_eq_true rfl) rfl (fun E h hend0 => ?_)
  have hend : ∀ (z' : Int32 × (Nat → Int32) × (Nat → Int32) × (Nat → Int32)), some z' = some z → ∀ (pc : Nat) (lv : List (Nat × Value)), decode cX6_become pc = .ok (.return_, 1) → G l D E 2 0 0 (wdX6_become cI cZ q0 q1 q2 q3 q4 q5 q6 q7 (z'.1) (z'.2.1) (z'.2.2.1) (z'.2.2.2) v_count2 v_house2 v_reach2 v_sounded2) pc lv [] := fun z' e => by cases e; exact hend0
  clear hend0
  unfold fX6_become at hF
  refine g_aload_n (np := 1) h 1 rfl rfl dX6_become_0 rfl ?_
  refine g_get (np := 4) (T := TX6) h imX6_become_u_X6 4 6 rfl rfl 0 (by decide) (imX6_become_own _ (List.mem_of_getElem? (i := 0) rfl)) rfl dX6_become_1 rfl ?_
  refine g_aload_n (np := 5) h 0 rfl rfl dX6_become_4 rfl ?_
  refine g_get (np := 8) (T := TX6) h imX6_become_u_X6 0 6 rfl rfl 0 (by decide) (imX6_become_own _ (List.mem_of_getElem? (i := 0) rfl)) rfl dX6_become_5 rfl ?_
  obtain ⟨r1, hr1, hF⟩ := Option.bind_eq_some_iff.mp hF
  refine g_callN (np := 11) (Wd' := (wdX6_become cI cZ q0 q1 q2 q3 q4 q5 q6 q7 v_count r1 v_reach v_sounded v_count2 v_house2 v_reach2 v_sounded2)) (As := [.ref q5, .ref q1]) h (mX8_copy l D cI cZ q5 q1 8 8 v_house2 v_house r1 hr1) gcX6_become_X8_copy rfl ⟨rfl, rfl⟩ (List.mem_of_getElem? (i := 14) rfl) (imX6_become_own _ (List.mem_of_getElem? (i := 2) rfl)) (imX6_become_own _ (List.mem_of_getElem? (i := 1) rfl)) hyX8_copy rfl rfl rfl rfl ⟨Nat.zero_le _, Nat.zero_le _⟩ [5, 1] [0, 2, 3, 4, 6, 7] (N := 8) (by decide +kernel) rfl rfl rfl rfl rfl dX6_become_8 rfl ?_
  refine g_aload_n (np := 12) h 1 rfl rfl dX6_become_11 rfl ?_
  refine g_get (np := 15) (T := TX6) h imX6_become_u_X6 4 6 rfl rfl 1 (by decide) (imX6_become_own _ (List.mem_of_getElem? (i := 3) rfl)) rfl dX6_become_12 rfl ?_
  refine g_aload_n (np := 16) h 0 rfl rfl dX6_become_15 rfl ?_
  refine g_get (np := 19) (T := TX6) h imX6_become_u_X6 0 6 rfl rfl 1 (by decide) (imX6_become_own _ (List.mem_of_getElem? (i := 3) rfl)) rfl dX6_become_16 rfl ?_
  obtain ⟨r2, hr2, hF⟩ := Option.bind_eq_some_iff.mp hF
  refine g_callN (np := 22) (Wd' := (wdX6_become cI cZ q0 q1 q2 q3 q4 q5 q6 q7 v_count r1 r2 v_sounded v_count2 v_house2 v_reach2 v_sounded2)) (As := [.ref q6, .ref q2]) h (mX8_copy l D cI cZ q6 q2 8 8 v_reach2 v_reach r2 hr2) gcX6_become_X8_copy rfl ⟨rfl, rfl⟩ (List.mem_of_getElem? (i := 14) rfl) (imX6_become_own _ (List.mem_of_getElem? (i := 2) rfl)) (imX6_become_own _ (List.mem_of_getElem? (i := 1) rfl)) hyX8_copy rfl rfl rfl rfl ⟨Nat.zero_le _, Nat.zero_le _⟩ [6, 2] [0, 1, 3, 4, 5, 7] (N := 8) (by decide +kernel) rfl rfl rfl rfl rfl dX6_become_19 rfl ?_
  refine g_aload_n (np := 23) h 1 rfl rfl dX6_become_22 rfl ?_
  refine g_get (np := 26) (T := TX6) h imX6_become_u_X6 4 6 rfl rfl 2 (by decide) (imX6_become_own _ (List.mem_of_getElem? (i := 4) rfl)) rfl dX6_become_23 rfl ?_
  refine g_aload_n (np := 27) h 0 rfl rfl dX6_become_26 rfl ?_
  refine g_get (np := 30) (T := TX6) h imX6_become_u_X6 0 6 rfl rfl 2 (by decide) (imX6_become_own _ (List.mem_of_getElem? (i := 4) rfl)) rfl dX6_become_27 rfl ?_
  obtain ⟨r3, hr3, hF⟩ := Option.bind_eq_some_iff.mp hF
  refine g_callN (np := 33) (Wd' := (wdX6_become cI cZ q0 q1 q2 q3 q4 q5 q6 q7 v_count r1 r2 r3 v_count2 v_house2 v_reach2 v_sounded2)) (As := [.ref q7, .ref q3]) h (mX8_copy l D cI cZ q7 q3 8 8 v_sounded2 v_sounded r3 hr3) gcX6_become_X8_copy rfl ⟨rfl, rfl⟩ (List.mem_of_getElem? (i := 14) rfl) (imX6_become_own _ (List.mem_of_getElem? (i := 2) rfl)) (imX6_become_own _ (List.mem_of_getElem? (i := 1) rfl)) hyX8_copy rfl rfl rfl rfl ⟨Nat.zero_le _, Nat.zero_le _⟩ [7, 3] [0, 1, 2, 4, 5, 6] (N := 8) (by decide +kernel) rfl rfl rfl rfl rfl dX6_become_30 rfl ?_
  refine g_aload_n (np := 34) h 0 rfl rfl dX6_become_33 rfl ?_
  refine g_aload_n (np := 35) h 1 rfl rfl dX6_become_34 rfl ?_
  refine g_get (np := 38) (T := TX6) h imX6_become_u_X6 4 6 rfl rfl 3 (by decide) (imX6_become_own _ (List.mem_of_getElem? (i := 5) rfl)) rfl dX6_become_35 rfl ?_
  refine g_put (np := 41) (T := TX6) (Wd' := (wdX6_become cI cZ q0 q1 q2 q3 q4 q5 q6 q7 v_count2 r1 r2 r3 v_count2 v_house2 v_reach2 v_sounded2)) h imX6_become_u_X6 tyX6_ok nmX6 0 6 rfl rfl 3 (by decide) (imX6_become_own _ (List.mem_of_getElem? (i := 5) rfl)) rfl rfl rfl (Nat.le_of_ble_eq_true rfl) rfl dX6_become_38 rfl ?_
  exact hend _ hF _ _ dX6_become_41
theorem dX6_add_0 : decode cX6_add 0 = .ok (.aload_n 0, 1) := by decide +kernel
theorem dX6_add_1 : decode cX6_add 1 = .ok (.getfield 9, 3) := by decide +kernel
theorem dX6_add_4 : decode cX6_add 4 = .ok (.aload_n 0, 1) := by decide +kernel
theorem dX6_add_5 : decode cX6_add 5 = .ok (.getfield 21, 3) := by decide +kernel
theorem dX6_add_8 : decode cX6_add 8 = .ok (.iload_n 1, 1) := by decide +kernel
theorem dX6_add_9 : decode cX6_add 9 = .ok (.invokestatic 29, 3) := by decide +kernel
theorem dX6_add_12 : decode cX6_add 12 = .ok (.aload_n 0, 1) := by decide +kernel
theorem dX6_add_13 : decode cX6_add 13 = .ok (.getfield 15, 3) := by decide +kernel
theorem dX6_add_16 : decode cX6_add 16 = .ok (.aload_n 0, 1) := by decide +kernel
theorem dX6_add_17 : decode cX6_add 17 = .ok (.getfield 21, 3) := by decide +kernel
theorem dX6_add_20 : decode cX6_add 20 = .ok (.iload_n 2, 1) := by decide +kernel
theorem dX6_add_21 : decode cX6_add 21 = .ok (.invokestatic 29, 3) := by decide +kernel
theorem dX6_add_24 : decode cX6_add 24 = .ok (.aload_n 0, 1) := by decide +kernel
theorem dX6_add_25 : decode cX6_add 25 = .ok (.getfield 18, 3) := by decide +kernel
theorem dX6_add_28 : decode cX6_add 28 = .ok (.aload_n 0, 1) := by decide +kernel
theorem dX6_add_29 : decode cX6_add 29 = .ok (.getfield 21, 3) := by decide +kernel
theorem dX6_add_32 : decode cX6_add 32 = .ok (.iload_n 3, 1) := by decide +kernel
theorem dX6_add_33 : decode cX6_add 33 = .ok (.ifCond .eq 7, 3) := by decide +kernel
theorem dX6_add_36 : decode cX6_add 36 = .ok (.iconst 1, 1) := by decide +kernel
theorem dX6_add_37 : decode cX6_add 37 = .ok (.goto 4, 3) := by decide +kernel
theorem dX6_add_40 : decode cX6_add 40 = .ok (.iconst 0, 1) := by decide +kernel
theorem dX6_add_41 : decode cX6_add 41 = .ok (.invokestatic 29, 3) := by decide +kernel
theorem dX6_add_44 : decode cX6_add 44 = .ok (.aload_n 0, 1) := by decide +kernel
theorem dX6_add_45 : decode cX6_add 45 = .ok (.dup, 1) := by decide +kernel
theorem dX6_add_46 : decode cX6_add 46 = .ok (.getfield 21, 3) := by decide +kernel
theorem dX6_add_49 : decode cX6_add 49 = .ok (.iconst 1, 1) := by decide +kernel
theorem dX6_add_50 : decode cX6_add 50 = .ok (.iadd, 1) := by decide +kernel
theorem dX6_add_51 : decode cX6_add 51 = .ok (.putfield 21, 3) := by decide +kernel
theorem dX6_add_54 : decode cX6_add 54 = .ok (.return_, 1) := by decide +kernel
def wtX6_add : List Cond := .code yX6_add cX6_add 4 none :: (([.fieldLink RX6 9 "DriftKin$Sights" "house" "[I", .fieldLink RX6 21 "DriftKin$Sights" "count" "I", .static yX8_put, .initialized RX8, .fieldLink RX6 15 "DriftKin$Sights" "reach" "[I", .fieldLink RX6 18 "DriftKin$Sights" "sounded" "[I"]) ++ ((u_ws RX6 TX6 4) ++ ((wtX8_put) ++ [])))
theorem imX6_add_own : ∀ w ∈ ([.fieldLink RX6 9 "DriftKin$Sights" "house" "[I", .fieldLink RX6 21 "DriftKin$Sights" "count" "I", .static yX8_put, .initialized RX8, .fieldLink RX6 15 "DriftKin$Sights" "reach" "[I", .fieldLink RX6 18 "DriftKin$Sights" "sounded" "[I"] : List Cond), w ∈ wtX6_add := fun w h => List.mem_cons_of_mem _ (inl h)
theorem imX6_add_u_X6 : ∀ w ∈ (u_ws RX6 TX6 4 : List Cond), w ∈ wtX6_add := fun w h => List.mem_cons_of_mem _ (inr (inl h))
theorem imX6_add_c_X8_put : ∀ w ∈ (wtX8_put : List Cond), w ∈ wtX6_add := fun w h => List.mem_cons_of_mem _ (inr (inr (inl h)))
theorem gdX6_add : ∀ w ∈ wtX6_add, Gd w := gdc rfl (gda (gdl (by decide +kernel)) (gda (gdu _ _ _) (gda gdX8_put gdn)))
theorem gcX6_add_X8_put : GoodIn wtX6_add (wtX8_put) := fun w h => ⟨imX6_add_c_X8_put w h, gdX8_put w h⟩
def fX6_add_41 (v_count : Int32) (v_house : Nat → Int32) (v_reach : Nat → Int32) (v_sounded : Nat → Int32) (s0 : Int32) (s1 : Int32) : Option (Int32 × (Nat → Int32) × (Nat → Int32) × (Nat → Int32)) :=
  (fX8_put 8 v_sounded s1 s0).bind (fun r1001 =>
    some ((v_count + (1 : Int32)), v_house, v_reach, r1001))
def fX6_add (v_count : Int32) (v_house : Nat → Int32) (v_reach : Nat → Int32) (v_sounded : Nat → Int32) (x1 : Int32) (x2 : Int32) (x3 : Int32) : Option (Int32 × (Nat → Int32) × (Nat → Int32) × (Nat → Int32)) :=
  (fX8_put 8 v_house v_count x1).bind (fun r1 =>
    (fX8_put 8 v_reach v_count x2).bind (fun r2 =>
      if x3 = (0 : Int32) then
        fX6_add_41 v_count r1 r2 v_sounded (0 : Int32) v_count
      else
        fX6_add_41 v_count r1 r2 v_sounded (1 : Int32) v_count))
def wdX6_add (cI cZ : ClassId) (q0 : Nat) (q1 : Nat) (q2 : Nat) (q3 : Nat)  (v_count : Int32) (v_house : Nat → Int32) (v_reach : Nat → Int32) (v_sounded : Nat → Int32) : va_W := [(q0, .inr (6, [.ref q1, .ref q2, .ref q3, .int v_count])), (q1, .inl (cI, 8, .inl v_house)), (q2, .inl (cI, 8, .inl v_reach)), (q3, .inl (cI, 8, .inl v_sounded))]
abbrev rmX6_add : Jvm.Room := { frames := 1, cells := 0, slots := 0, locals := 22 }
theorem hyX6_add : yX6_add.cls ≠ "java/lang/invoke/MethodHandle" ∧ yX6_add.cls ≠ "java/lang/invoke/VarHandle" ∧ (parseMethodDescriptor yX6_add.desc).map (fun d => d.parameters.length) = some 3 := by decide +kernel
set_option maxHeartbeats 4000000 in
set_option maxRecDepth 100000 in
theorem mX6_add (l : Launch) (D : va_G) (cI cZ : ClassId) (q0 : Nat) (q1 : Nat) (q2 : Nat) (q3 : Nat) (v_count : Int32) (v_house : Nat → Int32) (v_reach : Nat → Int32) (v_sounded : Nat → Int32) (x1 : Int32) (x2 : Int32) (x3 : Int32) (z : Int32 × (Nat → Int32) × (Nat → Int32) × (Nat → Int32)) (hF : fX6_add v_count v_house v_reach v_sounded x1 x2 x3 = some z) : mp l yX6_add wtX6_add rmX6_add D cI cZ [.ref q0, .int x1, .int x2, .int x3] (wdX6_add cI cZ q0 q1 q2 q3 v_count v_house v_reach v_sounded) none (wdX6_add cI cZ q0 q1 q2 q3 z.1 z.2.1 z.2.2.1 z.2.2.2) := by
  refine mp_v (lv0 := [(0, .ref q0), (1, .int x1), (2, .int x2), (3, .int x3)]) cX6_add 4 (by decide) rfl (Nat.le_of_ble_eq_true rfl) rfl (fun E h hend0 => ?_)
  have hend : ∀ (z' : Int32 × (Nat → Int32) × (Nat → Int32) × (Nat → Int32)), some z' = some z → ∀ (pc : Nat) (lv : List (Nat × Value)), decode cX6_add pc = .ok (.return_, 1) → G l D E 4 0 0 (wdX6_add cI cZ q0 q1 q2 q3 (z'.1) (z'.2.1) (z'.2.2.1) (z'.2.2.2)) pc lv [] := fun z' e => by cases e; exact hend0
  clear hend0
  have hL41 : ∀ (v_count : Int32) (v_house : Nat → Int32) (v_reach : Nat → Int32) (v_sounded : Nat → Int32) (s0 : Int32) (s1 : Int32), fX6_add_41 v_count v_house v_reach v_sounded s0 s1 = some z → G l D E 4 0 0 (wdX6_add cI cZ q0 q1 q2 q3 v_count v_house v_reach v_sounded) 41 [(0, .ref q0)] [.int s0, .int s1, .ref q3] := by
    intro v_count v_house v_reach v_sounded s0 s1 hF
    rw [fX6_add_41] at hF
    obtain ⟨r1001, hr1001, hF⟩ := Option.bind_eq_some_iff.mp hF
    refine g_callN (np := 44) (Wd' := (wdX6_add cI cZ q0 q1 q2 q3 v_count v_house v_reach r1001)) (As := [.ref q3, .int s1, .int s0]) h (mX8_put l D cI cZ q3 8 v_sounded s1 s0 r1001 hr1001) gcX6_add_X8_put rfl ⟨rfl, rfl⟩ (List.mem_of_getElem? (i := 28) rfl) (imX6_add_own _ (List.mem_of_getElem? (i := 3) rfl)) (imX6_add_own _ (List.mem_of_getElem? (i := 2) rfl)) hyX8_put rfl rfl rfl rfl ⟨Nat.zero_le _, Nat.zero_le _⟩ [3] [0, 1, 2] (N := 4) (by decide +kernel) rfl rfl rfl rfl rfl dX6_add_41 rfl ?_
    refine g_aload_n (np := 45) h 0 rfl rfl dX6_add_44 rfl ?_
    refine g_dup (np := 46) h rfl dX6_add_45 rfl ?_
    refine g_get (np := 49) (T := TX6) h imX6_add_u_X6 0 6 rfl rfl 3 (by decide) (imX6_add_own _ (List.mem_of_getElem? (i := 1) rfl)) rfl dX6_add_46 rfl ?_
    refine g_iconst (np := 50) (v := (1 : Int32)) h (by decide) dX6_add_49 rfl ?_
    refine g_iadd (np := 51) h dX6_add_50 rfl ?_
    refine g_put (np := 54) (T := TX6) (Wd' := (wdX6_add cI cZ q0 q1 q2 q3 (v_count + (1 : Int32)) v_house v_reach r1001)) h imX6_add_u_X6 tyX6_ok nmX6 0 6 rfl rfl 3 (by decide) (imX6_add_own _ (List.mem_of_getElem? (i := 1) rfl)) rfl rfl rfl (Nat.le_of_ble_eq_true rfl) rfl dX6_add_51 rfl ?_
    exact hend _ hF _ _ dX6_add_54
  unfold fX6_add at hF
  refine g_aload_n (np := 1) h 0 rfl rfl dX6_add_0 rfl ?_
  refine g_get (np := 4) (T := TX6) h imX6_add_u_X6 0 6 rfl rfl 0 (by decide) (imX6_add_own _ (List.mem_of_getElem? (i := 0) rfl)) rfl dX6_add_1 rfl ?_
  refine g_aload_n (np := 5) h 0 rfl rfl dX6_add_4 rfl ?_
  refine g_get (np := 8) (T := TX6) h imX6_add_u_X6 0 6 rfl rfl 3 (by decide) (imX6_add_own _ (List.mem_of_getElem? (i := 1) rfl)) rfl dX6_add_5 rfl ?_
  refine g_iload_n (np := 9) h 1 rfl rfl dX6_add_8 rfl ?_
  obtain ⟨r1, hr1, hF⟩ := Option.bind_eq_some_iff.mp hF
  refine g_callN (np := 12) (Wd' := (wdX6_add cI cZ q0 q1 q2 q3 v_count r1 v_reach v_sounded)) (As := [.ref q1, .int v_count, .int x1]) h (mX8_put l D cI cZ q1 8 v_house v_count x1 r1 hr1) gcX6_add_X8_put rfl ⟨rfl, rfl⟩ (List.mem_of_getElem? (i := 28) rfl) (imX6_add_own _ (List.mem_of_getElem? (i := 3) rfl)) (imX6_add_own _ (List.mem_of_getElem? (i := 2) rfl)) hyX8_put rfl rfl rfl rfl ⟨Nat.zero_le _, Nat.zero_le _⟩ [1] [0, 2, 3] (N := 4) (by decide +kernel) rfl rfl rfl rfl rfl dX6_add_9 rfl ?_
  refine g_aload_n (np := 13) h 0 rfl rfl dX6_add_12 rfl ?_
  refine g_get (np := 16) (T := TX6) h imX6_add_u_X6 0 6 rfl rfl 1 (by decide) (imX6_add_own _ (List.mem_of_getElem? (i := 4) rfl)) rfl dX6_add_13 rfl ?_
  refine g_aload_n (np := 17) h 0 rfl rfl dX6_add_16 rfl ?_
  refine g_get (np := 20) (T := TX6) h imX6_add_u_X6 0 6 rfl rfl 3 (by decide) (imX6_add_own _ (List.mem_of_getElem? (i := 1) rfl)) rfl dX6_add_17 rfl ?_
  refine g_iload_n (np := 21) h 2 rfl rfl dX6_add_20 rfl ?_
  obtain ⟨r2, hr2, hF⟩ := Option.bind_eq_some_iff.mp hF
  refine g_callN (np := 24) (Wd' := (wdX6_add cI cZ q0 q1 q2 q3 v_count r1 r2 v_sounded)) (As := [.ref q2, .int v_count, .int x2]) h (mX8_put l D cI cZ q2 8 v_reach v_count x2 r2 hr2) gcX6_add_X8_put rfl ⟨rfl, rfl⟩ (List.mem_of_getElem? (i := 28) rfl) (imX6_add_own _ (List.mem_of_getElem? (i := 3) rfl)) (imX6_add_own _ (List.mem_of_getElem? (i := 2) rfl)) hyX8_put rfl rfl rfl rfl ⟨Nat.zero_le _, Nat.zero_le _⟩ [2] [0, 1, 3] (N := 4) (by decide +kernel) rfl rfl rfl rfl rfl dX6_add_21 rfl ?_
  refine g_aload_n (np := 25) h 0 rfl rfl dX6_add_24 rfl ?_
  refine g_get (np := 28) (T := TX6) h imX6_add_u_X6 0 6 rfl rfl 2 (by decide) (imX6_add_own _ (List.mem_of_getElem? (i := 5) rfl)) rfl dX6_add_25 rfl ?_
  refine g_aload_n (np := 29) h 0 rfl rfl dX6_add_28 rfl ?_
  refine g_get (np := 32) (T := TX6) h imX6_add_u_X6 0 6 rfl rfl 3 (by decide) (imX6_add_own _ (List.mem_of_getElem? (i := 1) rfl)) rfl dX6_add_29 rfl ?_
  refine g_iload_n (np := 33) h 3 rfl rfl dX6_add_32 rfl ?_
  refine g_if_eq h hF dX6_add_33 (np := 36) rfl (tg := 40) rfl (fun c3 hF => ?_) (fun c3 hF => ?_)
  · refine g_iconst (np := 41) (v := (0 : Int32)) h (by decide) dX6_add_40 rfl ?_
    refine g_lv [0] rfl ?_
    exact hL41 v_count r1 r2 v_sounded (0 : Int32) v_count hF
  · refine g_iconst (np := 37) (v := (1 : Int32)) h (by decide) dX6_add_36 rfl ?_
    refine g_goto h dX6_add_37 (np := 41) rfl ?_
    refine g_lv [0] rfl ?_
    exact hL41 v_count r1 r2 v_sounded (1 : Int32) v_count hF
theorem dX6_bitsLeft_0 : decode cX6_bitsLeft 0 = .ok (.sipush 255, 3) := by decide +kernel
theorem dX6_bitsLeft_3 : decode cX6_bitsLeft 3 = .ok (.istore_n 1, 1) := by decide +kernel
theorem dX6_bitsLeft_4 : decode cX6_bitsLeft 4 = .ok (.iconst 0, 1) := by decide +kernel
theorem dX6_bitsLeft_5 : decode cX6_bitsLeft 5 = .ok (.istore_n 2, 1) := by decide +kernel
theorem dX6_bitsLeft_6 : decode cX6_bitsLeft 6 = .ok (.iload_n 2, 1) := by decide +kernel
theorem dX6_bitsLeft_7 : decode cX6_bitsLeft 7 = .ok (.aload_n 0, 1) := by decide +kernel
theorem dX6_bitsLeft_8 : decode cX6_bitsLeft 8 = .ok (.getfield 21, 3) := by decide +kernel
theorem dX6_bitsLeft_11 : decode cX6_bitsLeft 11 = .ok (.if_icmp .ge 51, 3) := by decide +kernel
theorem dX6_bitsLeft_14 : decode cX6_bitsLeft 14 = .ok (.aload_n 0, 1) := by decide +kernel
theorem dX6_bitsLeft_15 : decode cX6_bitsLeft 15 = .ok (.getfield 9, 3) := by decide +kernel
theorem dX6_bitsLeft_18 : decode cX6_bitsLeft 18 = .ok (.iload_n 2, 1) := by decide +kernel
theorem dX6_bitsLeft_19 : decode cX6_bitsLeft 19 = .ok (.invokestatic 33, 3) := by decide +kernel
theorem dX6_bitsLeft_22 : decode cX6_bitsLeft 22 = .ok (.aload_n 0, 1) := by decide +kernel
theorem dX6_bitsLeft_23 : decode cX6_bitsLeft 23 = .ok (.getfield 15, 3) := by decide +kernel
theorem dX6_bitsLeft_26 : decode cX6_bitsLeft 26 = .ok (.iload_n 2, 1) := by decide +kernel
theorem dX6_bitsLeft_27 : decode cX6_bitsLeft 27 = .ok (.invokestatic 33, 3) := by decide +kernel
theorem dX6_bitsLeft_30 : decode cX6_bitsLeft 30 = .ok (.invokestatic 37, 3) := by decide +kernel
theorem dX6_bitsLeft_33 : decode cX6_bitsLeft 33 = .ok (.istore_n 3, 1) := by decide +kernel
theorem dX6_bitsLeft_34 : decode cX6_bitsLeft 34 = .ok (.iload_n 1, 1) := by decide +kernel
theorem dX6_bitsLeft_35 : decode cX6_bitsLeft 35 = .ok (.aload_n 0, 1) := by decide +kernel
theorem dX6_bitsLeft_36 : decode cX6_bitsLeft 36 = .ok (.getfield 18, 3) := by decide +kernel
theorem dX6_bitsLeft_39 : decode cX6_bitsLeft 39 = .ok (.iload_n 2, 1) := by decide +kernel
theorem dX6_bitsLeft_40 : decode cX6_bitsLeft 40 = .ok (.invokestatic 33, 3) := by decide +kernel
theorem dX6_bitsLeft_43 : decode cX6_bitsLeft 43 = .ok (.iconst 1, 1) := by decide +kernel
theorem dX6_bitsLeft_44 : decode cX6_bitsLeft 44 = .ok (.if_icmp .ne 7, 3) := by decide +kernel
theorem dX6_bitsLeft_47 : decode cX6_bitsLeft 47 = .ok (.iload_n 3, 1) := by decide +kernel
theorem dX6_bitsLeft_48 : decode cX6_bitsLeft 48 = .ok (.goto 6, 3) := by decide +kernel
theorem dX6_bitsLeft_51 : decode cX6_bitsLeft 51 = .ok (.iload_n 3, 1) := by decide +kernel
theorem dX6_bitsLeft_52 : decode cX6_bitsLeft 52 = .ok (.iconst (-1), 1) := by decide +kernel
theorem dX6_bitsLeft_53 : decode cX6_bitsLeft 53 = .ok (.ixor, 1) := by decide +kernel
theorem dX6_bitsLeft_54 : decode cX6_bitsLeft 54 = .ok (.iand, 1) := by decide +kernel
theorem dX6_bitsLeft_55 : decode cX6_bitsLeft 55 = .ok (.istore_n 1, 1) := by decide +kernel
theorem dX6_bitsLeft_56 : decode cX6_bitsLeft 56 = .ok (.iinc 2 1, 3) := by decide +kernel
theorem dX6_bitsLeft_59 : decode cX6_bitsLeft 59 = .ok (.goto (-53), 3) := by decide +kernel
theorem dX6_bitsLeft_62 : decode cX6_bitsLeft 62 = .ok (.iload_n 1, 1) := by decide +kernel
theorem dX6_bitsLeft_63 : decode cX6_bitsLeft 63 = .ok (.ireturn, 1) := by decide +kernel
def wtX6_bitsLeft : List Cond := .code yX6_bitsLeft cX6_bitsLeft 4 (some .int) :: (([.fieldLink RX6 21 "DriftKin$Sights" "count" "I", .fieldLink RX6 9 "DriftKin$Sights" "house" "[I", .static yX8_at, .initialized RX8, .fieldLink RX6 15 "DriftKin$Sights" "reach" "[I", .static yX8_bitsNear, .fieldLink RX6 18 "DriftKin$Sights" "sounded" "[I"]) ++ ((u_ws RX6 TX6 4) ++ ((wtX8_at) ++ ((wtX8_bitsNear) ++ []))))
theorem imX6_bitsLeft_own : ∀ w ∈ ([.fieldLink RX6 21 "DriftKin$Sights" "count" "I", .fieldLink RX6 9 "DriftKin$Sights" "house" "[I", .static yX8_at, .initialized RX8, .fieldLink RX6 15 "DriftKin$Sights" "reach" "[I", .static yX8_bitsNear, .fieldLink RX6 18 "DriftKin$Sights" "sounded" "[I"] : List Cond), w ∈ wtX6_bitsLeft := fun w h => List.mem_cons_of_mem _ (inl h)
theorem imX6_bitsLeft_u_X6 : ∀ w ∈ (u_ws RX6 TX6 4 : List Cond), w ∈ wtX6_bitsLeft := fun w h => List.mem_cons_of_mem _ (inr (inl h))
theorem imX6_bitsLeft_c_X8_at : ∀ w ∈ (wtX8_at : List Cond), w ∈ wtX6_bitsLeft := fun w h => List.mem_cons_of_mem _ (inr (inr (inl h)))
theorem imX6_bitsLeft_c_X8_bitsNear : ∀ w ∈ (wtX8_bitsNear : List Cond), w ∈ wtX6_bitsLeft := fun w h => List.mem_cons_of_mem _ (inr (inr (inr (inl h))))
theorem gdX6_bitsLeft : ∀ w ∈ wtX6_bitsLeft, Gd w := gdc rfl (gda (gdl (by decide +kernel)) (gda (gdu _ _ _) (gda gdX8_at (gda gdX8_bitsNear gdn))))
theorem gcX6_bitsLeft_X8_at : GoodIn wtX6_bitsLeft (wtX8_at) := fun w h => ⟨imX6_bitsLeft_c_X8_at w h, gdX8_at w h⟩
theorem gcX6_bitsLeft_X8_bitsNear : GoodIn wtX6_bitsLeft (wtX8_bitsNear) := fun w h => ⟨imX6_bitsLeft_c_X8_bitsNear w h, gdX8_bitsNear w h⟩
def fX6_bitsLeft_6 (v_count : Int32) (v_house : Nat → Int32) (v_reach : Nat → Int32) (v_sounded : Nat → Int32) : Nat → Int32 → Int32 → Option (Int32)
  | 0, _, _ => none
  | n + 1, x1, x2 =>
    if v_count ≤ x2 then
      some x1
    else
      (fX8_at 8 v_house x2).bind (fun r1002 =>
        (fX8_at 8 v_reach x2).bind (fun r1003 =>
          (fX8_bitsNear r1002 r1003).bind (fun r1004 =>
            (fX8_at 8 v_sounded x2).bind (fun r1005 =>
              if r1005 = (1 : Int32) then
                fX6_bitsLeft_6 v_count v_house v_reach v_sounded n (x1 &&& r1004) (x2 + (1 : Int32))
              else
                fX6_bitsLeft_6 v_count v_house v_reach v_sounded n (x1 &&& (r1004 ^^^ (-1 : Int32))) (x2 + (1 : Int32))))))
def fX6_bitsLeft (v_count : Int32) (v_house : Nat → Int32) (v_reach : Nat → Int32) (v_sounded : Nat → Int32) : Option (Int32) :=
  fX6_bitsLeft_6 v_count v_house v_reach v_sounded 2000 (255 : Int32) (0 : Int32)
def wdX6_bitsLeft (cI cZ : ClassId) (q0 : Nat) (q1 : Nat) (q2 : Nat) (q3 : Nat)  (v_count : Int32) (v_house : Nat → Int32) (v_reach : Nat → Int32) (v_sounded : Nat → Int32) : va_W := [(q0, .inr (6, [.ref q1, .ref q2, .ref q3, .int v_count])), (q1, .inl (cI, 8, .inl v_house)), (q2, .inl (cI, 8, .inl v_reach)), (q3, .inl (cI, 8, .inl v_sounded))]
abbrev rmX6_bitsLeft : Jvm.Room := { frames := 2, cells := 0, slots := 0, locals := 44 }
theorem hyX6_bitsLeft : yX6_bitsLeft.cls ≠ "java/lang/invoke/MethodHandle" ∧ yX6_bitsLeft.cls ≠ "java/lang/invoke/VarHandle" ∧ (parseMethodDescriptor yX6_bitsLeft.desc).map (fun d => d.parameters.length) = some 0 := by decide +kernel
set_option maxHeartbeats 4000000 in
set_option maxRecDepth 100000 in
theorem mX6_bitsLeft (l : Launch) (D : va_G) (cI cZ : ClassId) (q0 : Nat) (q1 : Nat) (q2 : Nat) (q3 : Nat) (v_count : Int32) (v_house : Nat → Int32) (v_reach : Nat → Int32) (v_sounded : Nat → Int32) (z : Int32) (hF : fX6_bitsLeft v_count v_house v_reach v_sounded = some z) : mp l yX6_bitsLeft wtX6_bitsLeft rmX6_bitsLeft D cI cZ [.ref q0] (wdX6_bitsLeft cI cZ q0 q1 q2 q3 v_count v_house v_reach v_sounded) (some (.int z)) (wdX6_bitsLeft cI cZ q0 q1 q2 q3 v_count v_house v_reach v_sounded) := by
  refine mp_i (lv0 := [(0, .ref q0)]) cX6_bitsLeft 4 z (by decide) rfl (Nat.le_of_ble_eq_true rfl) rfl (fun E h hend0 => ?_)
  have hend : ∀ (z' : Int32), some z' = some z → ∀ (pc : Nat) (lv : List (Nat × Value)), decode cX6_bitsLeft pc = .ok (.ireturn, 1) → G l D E 4 0 0 (wdX6_bitsLeft cI cZ q0 q1 q2 q3 v_count v_house v_reach v_sounded) pc lv [.int z'] := fun z' e => by cases e; exact hend0
  clear hend0
  have hL6 : ∀ (n6 : Nat) (x1 : Int32) (x2 : Int32), fX6_bitsLeft_6 v_count v_house v_reach v_sounded n6 x1 x2 = some z → G l D E 4 0 0 (wdX6_bitsLeft cI cZ q0 q1 q2 q3 v_count v_house v_reach v_sounded) 6 [(0, .ref q0), (1, .int x1), (2, .int x2)] [] := by
    intro n6
    induction n6 with
    | zero =>
      intro x1 x2 hF
      rw [fX6_bitsLeft_6] at hF
      cases hF
    | succ n6 ih6 =>
      intro x1 x2 hF
      rw [fX6_bitsLeft_6] at hF
      refine g_iload_n (np := 7) h 2 rfl rfl dX6_bitsLeft_6 rfl ?_
      refine g_aload_n (np := 8) h 0 rfl rfl dX6_bitsLeft_7 rfl ?_
      refine g_get (np := 11) (T := TX6) h imX6_bitsLeft_u_X6 0 6 rfl rfl 3 (by decide) (imX6_bitsLeft_own _ (List.mem_of_getElem? (i := 0) rfl)) rfl dX6_bitsLeft_8 rfl ?_
      refine g_icmp_ge h hF dX6_bitsLeft_11 (np := 14) rfl (tg := 62) rfl (fun c1001 hF => ?_) (fun c1001 hF => ?_)
      · refine g_iload_n (np := 63) h 1 rfl rfl dX6_bitsLeft_62 rfl ?_
        exact hend _ hF _ _ dX6_bitsLeft_63
      · refine g_aload_n (np := 15) h 0 rfl rfl dX6_bitsLeft_14 rfl ?_
        refine g_get (np := 18) (T := TX6) h imX6_bitsLeft_u_X6 0 6 rfl rfl 0 (by decide) (imX6_bitsLeft_own _ (List.mem_of_getElem? (i := 1) rfl)) rfl dX6_bitsLeft_15 rfl ?_
        refine g_iload_n (np := 19) h 2 rfl rfl dX6_bitsLeft_18 rfl ?_
        obtain ⟨r1002, hr1002, hF⟩ := Option.bind_eq_some_iff.mp hF
        refine g_callN (np := 22) (Wd' := (wdX6_bitsLeft cI cZ q0 q1 q2 q3 v_count v_house v_reach v_sounded)) (As := [.ref q1, .int x2]) h (mX8_at l D cI cZ q1 8 v_house x2 r1002 hr1002) gcX6_bitsLeft_X8_at rfl ⟨rfl, rfl⟩ (List.mem_of_getElem? (i := 29) rfl) (imX6_bitsLeft_own _ (List.mem_of_getElem? (i := 3) rfl)) (imX6_bitsLeft_own _ (List.mem_of_getElem? (i := 2) rfl)) hyX8_at rfl rfl rfl rfl ⟨Nat.zero_le _, Nat.zero_le _⟩ [1] [0, 2, 3] (N := 4) (by decide +kernel) rfl rfl rfl rfl rfl dX6_bitsLeft_19 rfl ?_
        refine g_aload_n (np := 23) h 0 rfl rfl dX6_bitsLeft_22 rfl ?_
        refine g_get (np := 26) (T := TX6) h imX6_bitsLeft_u_X6 0 6 rfl rfl 1 (by decide) (imX6_bitsLeft_own _ (List.mem_of_getElem? (i := 4) rfl)) rfl dX6_bitsLeft_23 rfl ?_
        refine g_iload_n (np := 27) h 2 rfl rfl dX6_bitsLeft_26 rfl ?_
        obtain ⟨r1003, hr1003, hF⟩ := Option.bind_eq_some_iff.mp hF
        refine g_callN (np := 30) (Wd' := (wdX6_bitsLeft cI cZ q0 q1 q2 q3 v_count v_house v_reach v_sounded)) (As := [.ref q2, .int x2]) h (mX8_at l D cI cZ q2 8 v_reach x2 r1003 hr1003) gcX6_bitsLeft_X8_at rfl ⟨rfl, rfl⟩ (List.mem_of_getElem? (i := 29) rfl) (imX6_bitsLeft_own _ (List.mem_of_getElem? (i := 3) rfl)) (imX6_bitsLeft_own _ (List.mem_of_getElem? (i := 2) rfl)) hyX8_at rfl rfl rfl rfl ⟨Nat.zero_le _, Nat.zero_le _⟩ [2] [0, 1, 3] (N := 4) (by decide +kernel) rfl rfl rfl rfl rfl dX6_bitsLeft_27 rfl ?_
        obtain ⟨r1004, hr1004, hF⟩ := Option.bind_eq_some_iff.mp hF
        refine g_callN (np := 33) (Wd' := (wdX6_bitsLeft cI cZ q0 q1 q2 q3 v_count v_house v_reach v_sounded)) (As := [.int r1002, .int r1003]) h (mX8_bitsNear l D cI cZ r1002 r1003 r1004 hr1004) gcX6_bitsLeft_X8_bitsNear rfl ⟨rfl, rfl⟩ (List.mem_of_getElem? (i := 30) rfl) (imX6_bitsLeft_own _ (List.mem_of_getElem? (i := 3) rfl)) (imX6_bitsLeft_own _ (List.mem_of_getElem? (i := 5) rfl)) hyX8_bitsNear rfl rfl rfl rfl ⟨Nat.zero_le _, Nat.zero_le _⟩ [] [0, 1, 2, 3] (N := 4) (by decide +kernel) rfl rfl rfl rfl rfl dX6_bitsLeft_30 rfl ?_
        refine g_istore_n (np := 34) (lv' := [(3, .int r1004), (0, .ref q0), (1, .int x1), (2, .int x2)]) h rfl (by decide) rfl dX6_bitsLeft_33 rfl ?_
        refine g_iload_n (np := 35) h 2 rfl rfl dX6_bitsLeft_34 rfl ?_
        refine g_aload_n (np := 36) h 1 rfl rfl dX6_bitsLeft_35 rfl ?_
        refine g_get (np := 39) (T := TX6) h imX6_bitsLeft_u_X6 0 6 rfl rfl 2 (by decide) (imX6_bitsLeft_own _ (List.mem_of_getElem? (i := 6) rfl)) rfl dX6_bitsLeft_36 rfl ?_
        refine g_iload_n (np := 40) h 3 rfl rfl dX6_bitsLeft_39 rfl ?_
        obtain ⟨r1005, hr1005, hF⟩ := Option.bind_eq_some_iff.mp hF
        refine g_callN (np := 43) (Wd' := (wdX6_bitsLeft cI cZ q0 q1 q2 q3 v_count v_house v_reach v_sounded)) (As := [.ref q3, .int x2]) h (mX8_at l D cI cZ q3 8 v_sounded x2 r1005 hr1005) gcX6_bitsLeft_X8_at rfl ⟨rfl, rfl⟩ (List.mem_of_getElem? (i := 29) rfl) (imX6_bitsLeft_own _ (List.mem_of_getElem? (i := 3) rfl)) (imX6_bitsLeft_own _ (List.mem_of_getElem? (i := 2) rfl)) hyX8_at rfl rfl rfl rfl ⟨Nat.zero_le _, Nat.zero_le _⟩ [3] [0, 1, 2] (N := 4) (by decide +kernel) rfl rfl rfl rfl rfl dX6_bitsLeft_40 rfl ?_
        refine g_iconst (np := 44) (v := (1 : Int32)) h (by decide) dX6_bitsLeft_43 rfl ?_
        refine g_icmp_ne h hF dX6_bitsLeft_44 (np := 47) rfl (tg := 51) rfl (fun c1006 hF => ?_) (fun c1006 hF => ?_)
        · refine g_iload_n (np := 52) h 0 rfl rfl dX6_bitsLeft_51 rfl ?_
          refine g_iconst (np := 53) (v := (-1 : Int32)) h (by decide) dX6_bitsLeft_52 rfl ?_
          refine g_ixor (np := 54) h dX6_bitsLeft_53 rfl ?_
          refine g_iand (np := 55) h dX6_bitsLeft_54 rfl ?_
          refine g_istore_n (np := 56) (lv' := [(1, .int (x1 &&& (r1004 ^^^ (-1 : Int32)))), (3, .int r1004), (0, .ref q0), (2, .int x2)]) h rfl (by decide) rfl dX6_bitsLeft_55 rfl ?_
          refine g_iinc (np := 59) (v := (x2 + (1 : Int32))) (lv' := [(2, .int (x2 + (1 : Int32))), (1, .int (x1 &&& (r1004 ^^^ (-1 : Int32)))), (3, .int r1004), (0, .ref q0)]) h 3 rfl rfl (by decide) rfl dX6_bitsLeft_56 rfl ?_
          refine g_goto h dX6_bitsLeft_59 (np := 6) rfl ?_
          refine g_lv [3, 1, 0] rfl ?_
          exact ih6 (x1 &&& (r1004 ^^^ (-1 : Int32))) (x2 + (1 : Int32)) hF
        · refine g_iload_n (np := 48) h 0 rfl rfl dX6_bitsLeft_47 rfl ?_
          refine g_goto h dX6_bitsLeft_48 (np := 54) rfl ?_
          refine g_iand (np := 55) h dX6_bitsLeft_54 rfl ?_
          refine g_istore_n (np := 56) (lv' := [(1, .int (x1 &&& r1004)), (3, .int r1004), (0, .ref q0), (2, .int x2)]) h rfl (by decide) rfl dX6_bitsLeft_55 rfl ?_
          refine g_iinc (np := 59) (v := (x2 + (1 : Int32))) (lv' := [(2, .int (x2 + (1 : Int32))), (1, .int (x1 &&& r1004)), (3, .int r1004), (0, .ref q0)]) h 3 rfl rfl (by decide) rfl dX6_bitsLeft_56 rfl ?_
          refine g_goto h dX6_bitsLeft_59 (np := 6) rfl ?_
          refine g_lv [3, 1, 0] rfl ?_
          exact ih6 (x1 &&& r1004) (x2 + (1 : Int32)) hF
  unfold fX6_bitsLeft at hF
  refine g_sipush (np := 3) (v := (255 : Int32)) h (by decide) dX6_bitsLeft_0 rfl ?_
  refine g_istore_n (np := 4) (lv' := [(1, .int (255 : Int32)), (0, .ref q0)]) h rfl (by decide) rfl dX6_bitsLeft_3 rfl ?_
  refine g_iconst (np := 5) (v := (0 : Int32)) h (by decide) dX6_bitsLeft_4 rfl ?_
  refine g_istore_n (np := 6) (lv' := [(2, .int (0 : Int32)), (1, .int (255 : Int32)), (0, .ref q0)]) h rfl (by decide) rfl dX6_bitsLeft_5 rfl ?_
  refine g_lv [2, 1, 0] rfl ?_
  exact hL6 _ (255 : Int32) (0 : Int32) hF
end
section
theorem dX5_become_0 : decode cX5_become 0 = .ok (.aload_n 0, 1) := by decide +kernel
theorem dX5_become_1 : decode cX5_become 1 = .ok (.getfield 12, 3) := by decide +kernel
theorem dX5_become_4 : decode cX5_become 4 = .ok (.aload_n 1, 1) := by decide +kernel
theorem dX5_become_5 : decode cX5_become 5 = .ok (.getfield 12, 3) := by decide +kernel
theorem dX5_become_8 : decode cX5_become 8 = .ok (.invokevirtual 36, 3) := by decide +kernel
theorem dX5_become_11 : decode cX5_become 11 = .ok (.aload_n 0, 1) := by decide +kernel
theorem dX5_become_12 : decode cX5_become 12 = .ok (.getfield 21, 3) := by decide +kernel
theorem dX5_become_15 : decode cX5_become 15 = .ok (.aload_n 1, 1) := by decide +kernel
theorem dX5_become_16 : decode cX5_become 16 = .ok (.getfield 21, 3) := by decide +kernel
theorem dX5_become_19 : decode cX5_become 19 = .ok (.invokevirtual 40, 3) := by decide +kernel
theorem dX5_become_22 : decode cX5_become 22 = .ok (.aload_n 0, 1) := by decide +kernel
theorem dX5_become_23 : decode cX5_become 23 = .ok (.getfield 28, 3) := by decide +kernel
theorem dX5_become_26 : decode cX5_become 26 = .ok (.aload_n 1, 1) := by decide +kernel
theorem dX5_become_27 : decode cX5_become 27 = .ok (.getfield 28, 3) := by decide +kernel
theorem dX5_become_30 : decode cX5_become 30 = .ok (.invokevirtual 43, 3) := by decide +kernel
theorem dX5_become_33 : decode cX5_become 33 = .ok (.aload_n 0, 1) := by decide +kernel
theorem dX5_become_34 : decode cX5_become 34 = .ok (.aload_n 1, 1) := by decide +kernel
theorem dX5_become_35 : decode cX5_become 35 = .ok (.getfield 32, 3) := by decide +kernel
theorem dX5_become_38 : decode cX5_become 38 = .ok (.putfield 32, 3) := by decide +kernel
theorem dX5_become_41 : decode cX5_become 41 = .ok (.return_, 1) := by decide +kernel
def wtX5_become : List Cond := .code yX5_become cX5_become 2 none :: (([.fieldLink RX5 12 "DriftKin$Shore" "pieces" "LDriftKin$Pieces;", .fieldLink RX5 21 "DriftKin$Shore" "houses" "LDriftKin$Houses;", .fieldLink RX5 28 "DriftKin$Shore" "sights" "LDriftKin$Sights;", .fieldLink RX5 32 "DriftKin$Shore" "year" "I"]) ++ ((u_ws RX5 TX5 4) ++ ((wsV RX5 36 RX3 yX3_become wtX3_become) ++ ((wsV RX5 40 RX0 yX0_become wtX0_become) ++ ((wsV RX5 43 RX6 yX6_become wtX6_become) ++ [])))))
theorem imX5_become_own : ∀ w ∈ ([.fieldLink RX5 12 "DriftKin$Shore" "pieces" "LDriftKin$Pieces;", .fieldLink RX5 21 "DriftKin$Shore" "houses" "LDriftKin$Houses;", .fieldLink RX5 28 "DriftKin$Shore" "sights" "LDriftKin$Sights;", .fieldLink RX5 32 "DriftKin$Shore" "year" "I"] : List Cond), w ∈ wtX5_become := fun w h => List.mem_cons_of_mem _ (inl h)
theorem imX5_become_u_X5 : ∀ w ∈ (u_ws RX5 TX5 4 : List Cond), w ∈ wtX5_become := fun w h => List.mem_cons_of_mem _ (inr (inl h))
theorem imX5_become_c_X3_become : ∀ w ∈ (wsV RX5 36 RX3 yX3_become wtX3_become : List Cond), w ∈ wtX5_become := fun w h => List.mem_cons_of_mem _ (inr (inr (inl h)))
theorem imX5_become_c_X0_become : ∀ w ∈ (wsV RX5 40 RX0 yX0_become wtX0_become : List Cond), w ∈ wtX5_become := fun w h => List.mem_cons_of_mem _ (inr (inr (inr (inl h))))
theorem imX5_become_c_X6_become : ∀ w ∈ (wsV RX5 43 RX6 yX6_become wtX6_become : List Cond), w ∈ wtX5_become := fun w h => List.mem_cons_of_mem _ (inr (inr (inr (inr (inl h)))))
theorem gdX5_become : ∀ w ∈ wtX5_become, Gd w := gdc rfl (gda (gdl (by decide +kernel)) (gda (gdu _ _ _) (gda (gda (gdl (by decide +kernel)) gdX3_become) (gda (gda (gdl (by decide +kernel)) gdX0_become) (gda (gda (gdl (by decide +kernel)) gdX6_become) gdn)))))
theorem gcX5_become_X3_become : GoodIn wtX5_become (wsV RX5 36 RX3 yX3_become wtX3_become) := fun w h => ⟨imX5_become_c_X3_become w h, (gda (gdl (by decide +kernel)) gdX3_become) w h⟩
theorem gcX5_become_X0_become : GoodIn wtX5_become (wsV RX5 40 RX0 yX0_become wtX0_become) := fun w h => ⟨imX5_become_c_X0_become w h, (gda (gdl (by decide +kernel)) gdX0_become) w h⟩
theorem gcX5_become_X6_become : GoodIn wtX5_become (wsV RX5 43 RX6 yX6_become wtX6_become) := fun w h => ⟨imX5_become_c_X6_become w h, (gda (gdl (by decide +kernel)) gdX6_become) w h⟩
def fX5_become (v_year : Int32) (v_wreck : Nat → Int32) (v_wood : Nat → Int32) (v_length : Nat → Int32) (v_left : Nat → Int32) (v_right : Nat → Int32) (v_place : Nat → Int32) (v_rings : Nat → Int32) (v_piece : Nat → Int32) (v_partner : Nat → Int32) (v_children : Nat → Int32) (v_count : Int32) (v_house : Nat → Int32) (v_reach : Nat → Int32) (v_sounded : Nat → Int32) (v_year2 : Int32) (v_wreck2 : Nat → Int32) (v_wood2 : Nat → Int32) (v_length2 : Nat → Int32) (v_left2 : Nat → Int32) (v_right2 : Nat → Int32) (v_place2 : Nat → Int32) (v_rings2 : Nat → Int32) (v_piece2 : Nat → Int32) (v_partner2 : Nat → Int32) (v_children2 : Nat → Int32) (v_count2 : Int32) (v_house2 : Nat → Int32) (v_reach2 : Nat → Int32) (v_sounded2 : Nat → Int32) : Option (Int32 × (Nat → Int32) × (Nat → Int32) × (Nat → Int32) × (Nat → Int32) × (Nat → Int32) × (Nat → Int32) × (Nat → Int32) × (Nat → Int32) × (Nat → Int32) × (Nat → Int32) × Int32 × (Nat → Int32) × (Nat → Int32) × (Nat → Int32)) :=
  (fX3_become v_wreck v_wood v_length v_left v_right v_place v_rings v_wreck2 v_wood2 v_length2 v_left2 v_right2 v_place2 v_rings2).bind (fun r1 =>
    (fX0_become v_piece v_partner v_children v_piece2 v_partner2 v_children2).bind (fun r2 =>
      (fX6_become v_count v_house v_reach v_sounded v_count2 v_house2 v_reach2 v_sounded2).bind (fun r3 =>
        some (v_year2, r1.1, r1.2.1, r1.2.2.1, r1.2.2.2.1, r1.2.2.2.2.1, r1.2.2.2.2.2.1, r1.2.2.2.2.2.2, r2.1, r2.2.1, r2.2.2, r3.1, r3.2.1, r3.2.2.1, r3.2.2.2))))
def wdX5_become (cI cZ : ClassId) (q0 : Nat) (q1 : Nat) (q2 : Nat) (q3 : Nat) (q4 : Nat) (q5 : Nat) (q6 : Nat) (q7 : Nat) (q8 : Nat) (q9 : Nat) (q10 : Nat) (q11 : Nat) (q12 : Nat) (q13 : Nat) (q14 : Nat) (q15 : Nat) (q16 : Nat) (q17 : Nat) (q18 : Nat) (q19 : Nat) (q20 : Nat) (q21 : Nat) (q22 : Nat) (q23 : Nat) (q24 : Nat) (q25 : Nat) (q26 : Nat) (q27 : Nat) (q28 : Nat) (q29 : Nat) (q30 : Nat) (q31 : Nat) (q32 : Nat) (q33 : Nat)  (v_year : Int32) (v_wreck : Nat → Int32) (v_wood : Nat → Int32) (v_length : Nat → Int32) (v_left : Nat → Int32) (v_right : Nat → Int32) (v_place : Nat → Int32) (v_rings : Nat → Int32) (v_piece : Nat → Int32) (v_partner : Nat → Int32) (v_children : Nat → Int32) (v_count : Int32) (v_house : Nat → Int32) (v_reach : Nat → Int32) (v_sounded : Nat → Int32) (v_year2 : Int32) (v_wreck2 : Nat → Int32) (v_wood2 : Nat → Int32) (v_length2 : Nat → Int32) (v_left2 : Nat → Int32) (v_right2 : Nat → Int32) (v_place2 : Nat → Int32) (v_rings2 : Nat → Int32) (v_piece2 : Nat → Int32) (v_partner2 : Nat → Int32) (v_children2 : Nat → Int32) (v_count2 : Int32) (v_house2 : Nat → Int32) (v_reach2 : Nat → Int32) (v_sounded2 : Nat → Int32) : va_W := [(q0, .inr (5, [.ref q1, .ref q9, .ref q13, .int v_year])), (q1, .inr (3, [.ref q2, .ref q3, .ref q4, .ref q5, .ref q6, .ref q7, .ref q8])), (q2, .inl (cI, 10, .inl v_wreck)), (q3, .inl (cI, 10, .inl v_wood)), (q4, .inl (cI, 10, .inl v_length)), (q5, .inl (cI, 10, .inl v_left)), (q6, .inl (cI, 10, .inl v_right)), (q7, .inl (cI, 10, .inl v_place)), (q8, .inl (cI, 10, .inl v_rings)), (q9, .inr (0, [.ref q10, .ref q11, .ref q12])), (q10, .inl (cI, 8, .inl v_piece)), (q11, .inl (cI, 8, .inl v_partner)), (q12, .inl (cI, 8, .inl v_children)), (q13, .inr (6, [.ref q14, .ref q15, .ref q16, .int v_count])), (q14, .inl (cI, 8, .inl v_house)), (q15, .inl (cI, 8, .inl v_reach)), (q16, .inl (cI, 8, .inl v_sounded)), (q17, .inr (5, [.ref q18, .ref q26, .ref q30, .int v_year2])), (q18, .inr (3, [.ref q19, .ref q20, .ref q21, .ref q22, .ref q23, .ref q24, .ref q25])), (q19, .inl (cI, 10, .inl v_wreck2)), (q20, .inl (cI, 10, .inl v_wood2)), (q21, .inl (cI, 10, .inl v_length2)), (q22, .inl (cI, 10, .inl v_left2)), (q23, .inl (cI, 10, .inl v_right2)), (q24, .inl (cI, 10, .inl v_place2)), (q25, .inl (cI, 10, .inl v_rings2)), (q26, .inr (0, [.ref q27, .ref q28, .ref q29])), (q27, .inl (cI, 8, .inl v_piece2)), (q28, .inl (cI, 8, .inl v_partner2)), (q29, .inl (cI, 8, .inl v_children2)), (q30, .inr (6, [.ref q31, .ref q32, .ref q33, .int v_count2])), (q31, .inl (cI, 8, .inl v_house2)), (q32, .inl (cI, 8, .inl v_reach2)), (q33, .inl (cI, 8, .inl v_sounded2))]
abbrev rmX5_become : Jvm.Room := { frames := 2, cells := 0, slots := 0, locals := 43 }
theorem hyX5_become : yX5_become.cls ≠ "java/lang/invoke/MethodHandle" ∧ yX5_become.cls ≠ "java/lang/invoke/VarHandle" ∧ (parseMethodDescriptor yX5_become.desc).map (fun d => d.parameters.length) = some 1 := by decide +kernel
set_option maxHeartbeats 4000000 in
set_option maxRecDepth 100000 in
theorem mX5_become (l : Launch) (D : va_G) (cI cZ : ClassId) (q0 : Nat) (q1 : Nat) (q2 : Nat) (q3 : Nat) (q4 : Nat) (q5 : Nat) (q6 : Nat) (q7 : Nat) (q8 : Nat) (q9 : Nat) (q10 : Nat) (q11 : Nat) (q12 : Nat) (q13 : Nat) (q14 : Nat) (q15 : Nat) (q16 : Nat) (q17 : Nat) (q18 : Nat) (q19 : Nat) (q20 : Nat) (q21 : Nat) (q22 : Nat) (q23 : Nat) (q24 : Nat) (q25 : Nat) (q26 : Nat) (q27 : Nat) (q28 : Nat) (q29 : Nat) (q30 : Nat) (q31 : Nat) (q32 : Nat) (q33 : Nat) (v_year : Int32) (v_wreck : Nat → Int32) (v_wood : Nat → Int32) (v_length : Nat → Int32) (v_left : Nat → Int32) (v_right : Nat → Int32) (v_place : Nat → Int32) (v_rings : Nat → Int32) (v_piece : Nat → Int32) (v_partner : Nat → Int32) (v_children : Nat → Int32) (v_count : Int32) (v_house : Nat → Int32) (v_reach : Nat → Int32) (v_sounded : Nat → Int32) (v_year2 : Int32) (v_wreck2 : Nat → Int32) (v_wood2 : Nat → Int32) (v_length2 : Nat → Int32) (v_left2 : Nat → Int32) (v_right2 : Nat → Int32) (v_place2 : Nat → Int32) (v_rings2 : Nat → Int32) (v_piece2 : Nat → Int32) (v_partner2 : Nat → Int32) (v_children2 : Nat → Int32) (v_count2 : Int32) (v_house2 : Nat → Int32) (v_reach2 : Nat → Int32) (v_sounded2 : Nat → Int32) (z : Int32 × (Nat → Int32) × (Nat → Int32) × (Nat → Int32) × (Nat → Int32) × (Nat → Int32) × (Nat → Int32) × (Nat → Int32) × (Nat → Int32) × (Nat → Int32) × (Nat → Int32) × Int32 × (Nat → Int32) × (Nat → Int32) × (Nat → Int32)) (hF : fX5_become v_year v_wreck v_wood v_length v_left v_right v_place v_rings v_piece v_partner v_children v_count v_house v_reach v_sounded v_year2 v_wreck2 v_wood2 v_length2 v_left2 v_right2 v_place2 v_rings2 v_piece2 v_partner2 v_children2 v_count2 v_house2 v_reach2 v_sounded2 = some z) : mp l yX5_become wtX5_become rmX5_become D cI cZ [.ref q0, .ref q17] (wdX5_become cI cZ q0 q1 q2 q3 q4 q5 q6 q7 q8 q9 q10 q11 q12 q13 q14 q15 q16 q17 q18 q19 q20 q21 q22 q23 q24 q25 q26 q27 q28 q29 q30 q31 q32 q33 v_year v_wreck v_wood v_length v_left v_right v_place v_rings v_piece v_partner v_children v_count v_house v_reach v_sounded v_year2 v_wreck2 v_wood2 v_length2 v_left2 v_right2 v_place2 v_rings2 v_piece2 v_partner2 v_children2 v_count2 v_house2 v_reach2 v_sounded2) none (wdX5_become cI cZ q0 q1 q2 q3 q4 q5 q6 q7 q8 q9 q10 q11 q12 q13 q14 q15 q16 q17 q18 q19 q20 q21 q22 q23 q24 q25 q26 q27 q28 q29 q30 q31 q32 q33 z.1 z.2.1 z.2.2.1 z.2.2.2.1 z.2.2.2.2.1 z.2.2.2.2.2.1 z.2.2.2.2.2.2.1 z.2.2.2.2.2.2.2.1 z.2.2.2.2.2.2.2.2.1 z.2.2.2.2.2.2.2.2.2.1 z.2.2.2.2.2.2.2.2.2.2.1 z.2.2.2.2.2.2.2.2.2.2.2.1 z.2.2.2.2.2.2.2.2.2.2.2.2.1 z.2.2.2.2.2.2.2.2.2.2.2.2.2.1 z.2.2.2.2.2.2.2.2.2.2.2.2.2.2 v_year2 v_wreck2 v_wood2 v_length2 v_left2 v_right2 v_place2 v_rings2 v_piece2 v_partner2 v_children2 v_count2 v_house2 v_reach2 v_sounded2) := by
  refine mp_v (lv0 := [(0, .ref q0), (1, .ref q17)]) cX5_become 2 (by decide) rfl (Nat.le_of_ble_eq_true rfl) rfl (fun E h hend0 => ?_)
  have hend : ∀ (z' : Int32 × (Nat → Int32) × (Nat → Int32) × (Nat → Int32) × (Nat → Int32) × (Nat → Int32) × (Nat → Int32) × (Nat → Int32) × (Nat → Int32) × (Nat → Int32) × (Nat → Int32) × Int32 × (Nat → Int32) × (Nat → Int32) × (Nat → Int32)), some z' = some z → ∀ (pc : Nat) (lv : List (Nat × Value)), decode cX5_become pc = .ok (.return_, 1) → G l D E 2 0 0 (wdX5_become cI cZ q0 q1 q2 q3 q4 q5 q6 q7 q8 q9 q10 q11 q12 q13 q14 q15 q16 q17 q18 q19 q20 q21 q22 q23 q24 q25 q26 q27 q28 q29 q30 q31 q32 q33 (z'.1) (z'.2.1) (z'.2.2.1) (z'.2.2.2.1) (z'.2.2.2.2.1) (z'.2.2.2.2.2.1) (z'.2.2.2.2.2.2.1) (z'.2.2.2.2.2.2.2.1) (z'.2.2.2.2.2.2.2.2.1) (z'.2.2.2.2.2.2.2.2.2.1) (z'.2.2.2.2.2.2.2.2.2.2.1) (z'.2.2.2.2.2.2.2.2.2.2.2.1) (z'.2.2.2.2.2.2.2.2.2.2.2.2.1) (z'.2.2.2.2.2.2.2.2.2.2.2.2.2.1) (z'.2.2.2.2.2.2.2.2.2.2.2.2.2.2) v_year2 v_wreck2 v_wood2 v_length2 v_left2 v_right2 v_place2 v_rings2 v_piece2 v_partner2 v_children2 v_count2 v_house2 v_reach2 v_sounded2) pc lv [] := fun z' e => by cases e; exact hend0
  clear hend0
  unfold fX5_become at hF
  refine g_aload_n (np := 1) h 0 rfl rfl dX5_become_0 rfl ?_
  refine g_get (np := 4) (T := TX5) h imX5_become_u_X5 0 5 rfl rfl 0 (by decide) (imX5_become_own _ (List.mem_of_getElem? (i := 0) rfl)) rfl dX5_become_1 rfl ?_
  refine g_aload_n (np := 5) h 1 rfl rfl dX5_become_4 rfl ?_
  refine g_get (np := 8) (T := TX5) h imX5_become_u_X5 17 5 rfl rfl 0 (by decide) (imX5_become_own _ (List.mem_of_getElem? (i := 0) rfl)) rfl dX5_become_5 rfl ?_
  obtain ⟨r1, hr1, hF⟩ := Option.bind_eq_some_iff.mp hF
  refine g_callV (np := 11) (Wd' := (wdX5_become cI cZ q0 q1 q2 q3 q4 q5 q6 q7 q8 q9 q10 q11 q12 q13 q14 q15 q16 q17 q18 q19 q20 q21 q22 q23 q24 q25 q26 q27 q28 q29 q30 q31 q32 q33 v_year r1.1 r1.2.1 r1.2.2.1 r1.2.2.2.1 r1.2.2.2.2.1 r1.2.2.2.2.2.1 r1.2.2.2.2.2.2 v_piece v_partner v_children v_count v_house v_reach v_sounded v_year2 v_wreck2 v_wood2 v_length2 v_left2 v_right2 v_place2 v_rings2 v_piece2 v_partner2 v_children2 v_count2 v_house2 v_reach2 v_sounded2)) (As := [.ref q18]) h (mX3_become l D cI cZ q1 q2 q3 q4 q5 q6 q7 q8 q18 q19 q20 q21 q22 q23 q24 q25 v_wreck v_wood v_length v_left v_right v_place v_rings v_wreck2 v_wood2 v_length2 v_left2 v_right2 v_place2 v_rings2 r1 hr1) gcX5_become_X3_become rfl ⟨rfl, rfl⟩ ⟨rfl, hyX3_become⟩ rfl 3 1 rfl rfl rfl rfl rfl rfl ⟨Nat.zero_le _, Nat.zero_le _⟩ [1, 2, 3, 4, 5, 6, 7, 8, 18, 19, 20, 21, 22, 23, 24, 25] [0, 9, 10, 11, 12, 13, 14, 15, 16, 17, 26, 27, 28, 29, 30, 31, 32, 33] (N := 34) (by decide +kernel) rfl rfl rfl rfl rfl dX5_become_8 rfl ?_
  refine g_aload_n (np := 12) h 0 rfl rfl dX5_become_11 rfl ?_
  refine g_get (np := 15) (T := TX5) h imX5_become_u_X5 0 5 rfl rfl 1 (by decide) (imX5_become_own _ (List.mem_of_getElem? (i := 1) rfl)) rfl dX5_become_12 rfl ?_
  refine g_aload_n (np := 16) h 1 rfl rfl dX5_become_15 rfl ?_
  refine g_get (np := 19) (T := TX5) h imX5_become_u_X5 17 5 rfl rfl 1 (by decide) (imX5_become_own _ (List.mem_of_getElem? (i := 1) rfl)) rfl dX5_become_16 rfl ?_
  obtain ⟨r2, hr2, hF⟩ := Option.bind_eq_some_iff.mp hF
  refine g_callV (np := 22) (Wd' := (wdX5_become cI cZ q0 q1 q2 q3 q4 q5 q6 q7 q8 q9 q10 q11 q12 q13 q14 q15 q16 q17 q18 q19 q20 q21 q22 q23 q24 q25 q26 q27 q28 q29 q30 q31 q32 q33 v_year r1.1 r1.2.1 r1.2.2.1 r1.2.2.2.1 r1.2.2.2.2.1 r1.2.2.2.2.2.1 r1.2.2.2.2.2.2 r2.1 r2.2.1 r2.2.2 v_count v_house v_reach v_sounded v_year2 v_wreck2 v_wood2 v_length2 v_left2 v_right2 v_place2 v_rings2 v_piece2 v_partner2 v_children2 v_count2 v_house2 v_reach2 v_sounded2)) (As := [.ref q26]) h (mX0_become l D cI cZ q9 q10 q11 q12 q26 q27 q28 q29 v_piece v_partner v_children v_piece2 v_partner2 v_children2 r2 hr2) gcX5_become_X0_become rfl ⟨rfl, rfl⟩ ⟨rfl, hyX0_become⟩ rfl 0 9 rfl rfl rfl rfl rfl rfl ⟨Nat.zero_le _, Nat.zero_le _⟩ [9, 10, 11, 12, 26, 27, 28, 29] [0, 1, 2, 3, 4, 5, 6, 7, 8, 13, 14, 15, 16, 17, 18, 19, 20, 21, 22, 23, 24, 25, 30, 31, 32, 33] (N := 34) (by decide +kernel) rfl rfl rfl rfl rfl dX5_become_19 rfl ?_
  refine g_aload_n (np := 23) h 0 rfl rfl dX5_become_22 rfl ?_
  refine g_get (np := 26) (T := TX5) h imX5_become_u_X5 0 5 rfl rfl 2 (by decide) (imX5_become_own _ (List.mem_of_getElem? (i := 2) rfl)) rfl dX5_become_23 rfl ?_
  refine g_aload_n (np := 27) h 1 rfl rfl dX5_become_26 rfl ?_
  refine g_get (np := 30) (T := TX5) h imX5_become_u_X5 17 5 rfl rfl 2 (by decide) (imX5_become_own _ (List.mem_of_getElem? (i := 2) rfl)) rfl dX5_become_27 rfl ?_
  obtain ⟨r3, hr3, hF⟩ := Option.bind_eq_some_iff.mp hF
  refine g_callV (np := 33) (Wd' := (wdX5_become cI cZ q0 q1 q2 q3 q4 q5 q6 q7 q8 q9 q10 q11 q12 q13 q14 q15 q16 q17 q18 q19 q20 q21 q22 q23 q24 q25 q26 q27 q28 q29 q30 q31 q32 q33 v_year r1.1 r1.2.1 r1.2.2.1 r1.2.2.2.1 r1.2.2.2.2.1 r1.2.2.2.2.2.1 r1.2.2.2.2.2.2 r2.1 r2.2.1 r2.2.2 r3.1 r3.2.1 r3.2.2.1 r3.2.2.2 v_year2 v_wreck2 v_wood2 v_length2 v_left2 v_right2 v_place2 v_rings2 v_piece2 v_partner2 v_children2 v_count2 v_house2 v_reach2 v_sounded2)) (As := [.ref q30]) h (mX6_become l D cI cZ q13 q14 q15 q16 q30 q31 q32 q33 v_count v_house v_reach v_sounded v_count2 v_house2 v_reach2 v_sounded2 r3 hr3) gcX5_become_X6_become rfl ⟨rfl, rfl⟩ ⟨rfl, hyX6_become⟩ rfl 6 13 rfl rfl rfl rfl rfl rfl ⟨Nat.zero_le _, Nat.zero_le _⟩ [13, 14, 15, 16, 30, 31, 32, 33] [0, 1, 2, 3, 4, 5, 6, 7, 8, 9, 10, 11, 12, 17, 18, 19, 20, 21, 22, 23, 24, 25, 26, 27, 28, 29] (N := 34) (by decide +kernel) rfl rfl rfl rfl rfl dX5_become_30 rfl ?_
  refine g_aload_n (np := 34) h 0 rfl rfl dX5_become_33 rfl ?_
  refine g_aload_n (np := 35) h 1 rfl rfl dX5_become_34 rfl ?_
  refine g_get (np := 38) (T := TX5) h imX5_become_u_X5 17 5 rfl rfl 3 (by decide) (imX5_become_own _ (List.mem_of_getElem? (i := 3) rfl)) rfl dX5_become_35 rfl ?_
  refine g_put (np := 41) (T := TX5) (Wd' := (wdX5_become cI cZ q0 q1 q2 q3 q4 q5 q6 q7 q8 q9 q10 q11 q12 q13 q14 q15 q16 q17 q18 q19 q20 q21 q22 q23 q24 q25 q26 q27 q28 q29 q30 q31 q32 q33 v_year2 r1.1 r1.2.1 r1.2.2.1 r1.2.2.2.1 r1.2.2.2.2.1 r1.2.2.2.2.2.1 r1.2.2.2.2.2.2 r2.1 r2.2.1 r2.2.2 r3.1 r3.2.1 r3.2.2.1 r3.2.2.2 v_year2 v_wreck2 v_wood2 v_length2 v_left2 v_right2 v_place2 v_rings2 v_piece2 v_partner2 v_children2 v_count2 v_house2 v_reach2 v_sounded2)) h imX5_become_u_X5 tyX5_ok nmX5 0 5 rfl rfl 3 (by decide) (imX5_become_own _ (List.mem_of_getElem? (i := 3) rfl)) rfl rfl rfl (Nat.le_of_ble_eq_true rfl) rfl dX5_become_38 rfl ?_
  exact hend _ hF _ _ dX5_become_41
theorem dX5_comeIn_0 : decode cX5_comeIn 0 = .ok (.aload_n 0, 1) := by decide +kernel
theorem dX5_comeIn_1 : decode cX5_comeIn 1 = .ok (.getfield 12, 3) := by decide +kernel
theorem dX5_comeIn_4 : decode cX5_comeIn 4 = .ok (.getfield 46, 3) := by decide +kernel
theorem dX5_comeIn_7 : decode cX5_comeIn 7 = .ok (.iload_n 1, 1) := by decide +kernel
theorem dX5_comeIn_8 : decode cX5_comeIn 8 = .ok (.invokestatic 50, 3) := by decide +kernel
theorem dX5_comeIn_11 : decode cX5_comeIn 11 = .ok (.ifCond .eq 5, 3) := by decide +kernel
theorem dX5_comeIn_14 : decode cX5_comeIn 14 = .ok (.iconst 1, 1) := by decide +kernel
theorem dX5_comeIn_15 : decode cX5_comeIn 15 = .ok (.ireturn, 1) := by decide +kernel
theorem dX5_comeIn_16 : decode cX5_comeIn 16 = .ok (.aload_n 0, 1) := by decide +kernel
theorem dX5_comeIn_17 : decode cX5_comeIn 17 = .ok (.getfield 12, 3) := by decide +kernel
theorem dX5_comeIn_20 : decode cX5_comeIn 20 = .ok (.getfield 46, 3) := by decide +kernel
theorem dX5_comeIn_23 : decode cX5_comeIn 23 = .ok (.iload_n 1, 1) := by decide +kernel
theorem dX5_comeIn_24 : decode cX5_comeIn 24 = .ok (.iconst 1, 1) := by decide +kernel
theorem dX5_comeIn_25 : decode cX5_comeIn 25 = .ok (.invokestatic 54, 3) := by decide +kernel
theorem dX5_comeIn_28 : decode cX5_comeIn 28 = .ok (.iconst 0, 1) := by decide +kernel
theorem dX5_comeIn_29 : decode cX5_comeIn 29 = .ok (.ireturn, 1) := by decide +kernel
def wtX5_comeIn : List Cond := .code yX5_comeIn cX5_comeIn 2 (some .int) :: (([.fieldLink RX5 12 "DriftKin$Shore" "pieces" "LDriftKin$Pieces;", .fieldLink RX5 46 "DriftKin$Pieces" "place" "[I", .static yX8_at, .initialized RX8, .static yX8_put]) ++ ((u_ws RX3 TX3 7) ++ ((u_ws RX5 TX5 4) ++ ((wtX8_at) ++ ((wtX8_put) ++ [])))))
theorem imX5_comeIn_own : ∀ w ∈ ([.fieldLink RX5 12 "DriftKin$Shore" "pieces" "LDriftKin$Pieces;", .fieldLink RX5 46 "DriftKin$Pieces" "place" "[I", .static yX8_at, .initialized RX8, .static yX8_put] : List Cond), w ∈ wtX5_comeIn := fun w h => List.mem_cons_of_mem _ (inl h)
theorem imX5_comeIn_u_X3 : ∀ w ∈ (u_ws RX3 TX3 7 : List Cond), w ∈ wtX5_comeIn := fun w h => List.mem_cons_of_mem _ (inr (inl h))
theorem imX5_comeIn_u_X5 : ∀ w ∈ (u_ws RX5 TX5 4 : List Cond), w ∈ wtX5_comeIn := fun w h => List.mem_cons_of_mem _ (inr (inr (inl h)))
theorem imX5_comeIn_c_X8_at : ∀ w ∈ (wtX8_at : List Cond), w ∈ wtX5_comeIn := fun w h => List.mem_cons_of_mem _ (inr (inr (inr (inl h))))
theorem imX5_comeIn_c_X8_put : ∀ w ∈ (wtX8_put : List Cond), w ∈ wtX5_comeIn := fun w h => List.mem_cons_of_mem _ (inr (inr (inr (inr (inl h)))))
theorem gdX5_comeIn : ∀ w ∈ wtX5_comeIn, Gd w := gdc rfl (gda (gdl (by decide +kernel)) (gda (gdu _ _ _) (gda (gdu _ _ _) (gda gdX8_at (gda gdX8_put gdn)))))
theorem gcX5_comeIn_X8_at : GoodIn wtX5_comeIn (wtX8_at) := fun w h => ⟨imX5_comeIn_c_X8_at w h, gdX8_at w h⟩
theorem gcX5_comeIn_X8_put : GoodIn wtX5_comeIn (wtX8_put) := fun w h => ⟨imX5_comeIn_c_X8_put w h, gdX8_put w h⟩
def fX5_comeIn (v_place : Nat → Int32) (x1 : Int32) : Option (Int32 × (Nat → Int32)) :=
  (fX8_at 10 v_place x1).bind (fun r1 =>
    if r1 = (0 : Int32) then
      (fX8_put 10 v_place x1 (1 : Int32)).bind (fun r3 =>
        some ((0 : Int32), r3))
    else
      some ((1 : Int32), v_place))
def wdX5_comeIn (cI cZ : ClassId) (q0 : Nat) (q1 : Nat) (q2 : Nat) (d3 : Nat) (d4 : Nat) (d5 : Nat) (d6 : Nat) (d7 : Nat) (d8 : Nat) (d9 : Nat) (d10 : Nat)  (v_place : Nat → Int32) (v_year : Int32) : va_W := [(q0, .inr (5, [.ref q1, .ref d3, .ref d4, .int v_year])), (q1, .inr (3, [.ref d5, .ref d6, .ref d7, .ref d8, .ref d9, .ref q2, .ref d10])), (q2, .inl (cI, 10, .inl v_place))]
abbrev rmX5_comeIn : Jvm.Room := { frames := 1, cells := 0, slots := 0, locals := 22 }
theorem hyX5_comeIn : yX5_comeIn.cls ≠ "java/lang/invoke/MethodHandle" ∧ yX5_comeIn.cls ≠ "java/lang/invoke/VarHandle" ∧ (parseMethodDescriptor yX5_comeIn.desc).map (fun d => d.parameters.length) = some 1 := by decide +kernel
set_option maxHeartbeats 4000000 in
set_option maxRecDepth 100000 in
theorem mX5_comeIn (l : Launch) (D : va_G) (cI cZ : ClassId) (q0 : Nat) (q1 : Nat) (q2 : Nat) (d3 : Nat) (d4 : Nat) (d5 : Nat) (d6 : Nat) (d7 : Nat) (d8 : Nat) (d9 : Nat) (d10 : Nat) (v_place : Nat → Int32) (v_year : Int32) (x1 : Int32) (z : Int32 × (Nat → Int32)) (hF : fX5_comeIn v_place x1 = some z) : mp l yX5_comeIn wtX5_comeIn rmX5_comeIn D cI cZ [.ref q0, .int x1] (wdX5_comeIn cI cZ q0 q1 q2 d3 d4 d5 d6 d7 d8 d9 d10 v_place v_year) (some (.int z.1)) (wdX5_comeIn cI cZ q0 q1 q2 d3 d4 d5 d6 d7 d8 d9 d10 z.2 v_year) := by
  refine mp_i (lv0 := [(0, .ref q0), (1, .int x1)]) cX5_comeIn 2 z.1 (by decide) rfl (Nat.le_of_ble_eq_true rfl) rfl (fun E h hend0 => ?_)
  have hend : ∀ (z' : Int32 × (Nat → Int32)), some z' = some z → ∀ (pc : Nat) (lv : List (Nat × Value)), decode cX5_comeIn pc = .ok (.ireturn, 1) → G l D E 2 0 0 (wdX5_comeIn cI cZ q0 q1 q2 d3 d4 d5 d6 d7 d8 d9 d10 (z'.2) v_year) pc lv [.int z'.1] := fun z' e => by cases e; exact hend0
  clear hend0
  unfold fX5_comeIn at hF
  refine g_aload_n (np := 1) h 0 rfl rfl dX5_comeIn_0 rfl ?_
  refine g_get (np := 4) (T := TX5) h imX5_comeIn_u_X5 0 5 rfl rfl 0 (by decide) (imX5_comeIn_own _ (List.mem_of_getElem? (i := 0) rfl)) rfl dX5_comeIn_1 rfl ?_
  refine g_get (np := 7) (T := TX3) h imX5_comeIn_u_X3 1 3 rfl rfl 5 (by decide) (imX5_comeIn_own _ (List.mem_of_getElem? (i := 1) rfl)) rfl dX5_comeIn_4 rfl ?_
  refine g_iload_n (np := 8) h 1 rfl rfl dX5_comeIn_7 rfl ?_
  obtain ⟨r1, hr1, hF⟩ := Option.bind_eq_some_iff.mp hF
  refine g_callN (np := 11) (Wd' := (wdX5_comeIn cI cZ q0 q1 q2 d3 d4 d5 d6 d7 d8 d9 d10 v_place v_year)) (As := [.ref q2, .int x1]) h (mX8_at l D cI cZ q2 10 v_place x1 r1 hr1) gcX5_comeIn_X8_at rfl ⟨rfl, rfl⟩ (List.mem_of_getElem? (i := 16) rfl) (imX5_comeIn_own _ (List.mem_of_getElem? (i := 3) rfl)) (imX5_comeIn_own _ (List.mem_of_getElem? (i := 2) rfl)) hyX8_at rfl rfl rfl rfl ⟨Nat.zero_le _, Nat.zero_le _⟩ [2] [0, 1] (N := 3) (by decide +kernel) rfl rfl rfl rfl rfl dX5_comeIn_8 rfl ?_
  refine g_if_eq h hF dX5_comeIn_11 (np := 14) rfl (tg := 16) rfl (fun c2 hF => ?_) (fun c2 hF => ?_)
  · refine g_aload_n (np := 17) h 0 rfl rfl dX5_comeIn_16 rfl ?_
    refine g_get (np := 20) (T := TX5) h imX5_comeIn_u_X5 0 5 rfl rfl 0 (by decide) (imX5_comeIn_own _ (List.mem_of_getElem? (i := 0) rfl)) rfl dX5_comeIn_17 rfl ?_
    refine g_get (np := 23) (T := TX3) h imX5_comeIn_u_X3 1 3 rfl rfl 5 (by decide) (imX5_comeIn_own _ (List.mem_of_getElem? (i := 1) rfl)) rfl dX5_comeIn_20 rfl ?_
    refine g_iload_n (np := 24) h 1 rfl rfl dX5_comeIn_23 rfl ?_
    refine g_iconst (np := 25) (v := (1 : Int32)) h (by decide) dX5_comeIn_24 rfl ?_
    obtain ⟨r3, hr3, hF⟩ := Option.bind_eq_some_iff.mp hF
    refine g_callN (np := 28) (Wd' := (wdX5_comeIn cI cZ q0 q1 q2 d3 d4 d5 d6 d7 d8 d9 d10 r3 v_year)) (As := [.ref q2, .int x1, .int (1 : Int32)]) h (mX8_put l D cI cZ q2 10 v_place x1 (1 : Int32) r3 hr3) gcX5_comeIn_X8_put rfl ⟨rfl, rfl⟩ (List.mem_of_getElem? (i := 18) rfl) (imX5_comeIn_own _ (List.mem_of_getElem? (i := 3) rfl)) (imX5_comeIn_own _ (List.mem_of_getElem? (i := 4) rfl)) hyX8_put rfl rfl rfl rfl ⟨Nat.zero_le _, Nat.zero_le _⟩ [2] [0, 1] (N := 3) (by decide +kernel) rfl rfl rfl rfl rfl dX5_comeIn_25 rfl ?_
    refine g_iconst (np := 29) (v := (0 : Int32)) h (by decide) dX5_comeIn_28 rfl ?_
    exact hend _ hF _ _ dX5_comeIn_29
  · refine g_iconst (np := 15) (v := (1 : Int32)) h (by decide) dX5_comeIn_14 rfl ?_
    exact hend _ hF _ _ dX5_comeIn_15
theorem dX5_takeHome_0 : decode cX5_takeHome 0 = .ok (.aload_n 0, 1) := by decide +kernel
theorem dX5_takeHome_1 : decode cX5_takeHome 1 = .ok (.getfield 12, 3) := by decide +kernel
theorem dX5_takeHome_4 : decode cX5_takeHome 4 = .ok (.getfield 46, 3) := by decide +kernel
theorem dX5_takeHome_7 : decode cX5_takeHome 7 = .ok (.iload_n 2, 1) := by decide +kernel
theorem dX5_takeHome_8 : decode cX5_takeHome 8 = .ok (.invokestatic 50, 3) := by decide +kernel
theorem dX5_takeHome_11 : decode cX5_takeHome 11 = .ok (.iconst 1, 1) := by decide +kernel
theorem dX5_takeHome_12 : decode cX5_takeHome 12 = .ok (.if_icmp .eq 5, 3) := by decide +kernel
theorem dX5_takeHome_15 : decode cX5_takeHome 15 = .ok (.iconst 1, 1) := by decide +kernel
theorem dX5_takeHome_16 : decode cX5_takeHome 16 = .ok (.ireturn, 1) := by decide +kernel
theorem dX5_takeHome_17 : decode cX5_takeHome 17 = .ok (.aload_n 0, 1) := by decide +kernel
theorem dX5_takeHome_18 : decode cX5_takeHome 18 = .ok (.getfield 21, 3) := by decide +kernel
theorem dX5_takeHome_21 : decode cX5_takeHome 21 = .ok (.iload_n 1, 1) := by decide +kernel
theorem dX5_takeHome_22 : decode cX5_takeHome 22 = .ok (.invokevirtual 58, 3) := by decide +kernel
theorem dX5_takeHome_25 : decode cX5_takeHome 25 = .ok (.ifCond .ne 5, 3) := by decide +kernel
theorem dX5_takeHome_28 : decode cX5_takeHome 28 = .ok (.iconst 2, 1) := by decide +kernel
theorem dX5_takeHome_29 : decode cX5_takeHome 29 = .ok (.ireturn, 1) := by decide +kernel
theorem dX5_takeHome_30 : decode cX5_takeHome 30 = .ok (.aload_n 0, 1) := by decide +kernel
theorem dX5_takeHome_31 : decode cX5_takeHome 31 = .ok (.getfield 12, 3) := by decide +kernel
theorem dX5_takeHome_34 : decode cX5_takeHome 34 = .ok (.getfield 46, 3) := by decide +kernel
theorem dX5_takeHome_37 : decode cX5_takeHome 37 = .ok (.iload_n 2, 1) := by decide +kernel
theorem dX5_takeHome_38 : decode cX5_takeHome 38 = .ok (.iconst 2, 1) := by decide +kernel
theorem dX5_takeHome_39 : decode cX5_takeHome 39 = .ok (.invokestatic 54, 3) := by decide +kernel
theorem dX5_takeHome_42 : decode cX5_takeHome 42 = .ok (.aload_n 0, 1) := by decide +kernel
theorem dX5_takeHome_43 : decode cX5_takeHome 43 = .ok (.getfield 21, 3) := by decide +kernel
theorem dX5_takeHome_46 : decode cX5_takeHome 46 = .ok (.getfield 62, 3) := by decide +kernel
theorem dX5_takeHome_49 : decode cX5_takeHome 49 = .ok (.iload_n 1, 1) := by decide +kernel
theorem dX5_takeHome_50 : decode cX5_takeHome 50 = .ok (.iload_n 2, 1) := by decide +kernel
theorem dX5_takeHome_51 : decode cX5_takeHome 51 = .ok (.invokestatic 54, 3) := by decide +kernel
theorem dX5_takeHome_54 : decode cX5_takeHome 54 = .ok (.iconst 0, 1) := by decide +kernel
theorem dX5_takeHome_55 : decode cX5_takeHome 55 = .ok (.ireturn, 1) := by decide +kernel
def wtX5_takeHome : List Cond := .code yX5_takeHome cX5_takeHome 3 (some .int) :: (([.fieldLink RX5 12 "DriftKin$Shore" "pieces" "LDriftKin$Pieces;", .fieldLink RX5 46 "DriftKin$Pieces" "place" "[I", .static yX8_at, .initialized RX8, .fieldLink RX5 21 "DriftKin$Shore" "houses" "LDriftKin$Houses;", .static yX8_put, .fieldLink RX5 62 "DriftKin$Houses" "piece" "[I"]) ++ ((u_ws RX0 TX0 3) ++ ((u_ws RX3 TX3 7) ++ ((u_ws RX5 TX5 4) ++ ((wtX8_at) ++ ((wsV RX5 58 RX0 yX0_isOfNone wtX0_isOfNone) ++ ((wtX8_put) ++ [])))))))
theorem imX5_takeHome_own : ∀ w ∈ ([.fieldLink RX5 12 "DriftKin$Shore" "pieces" "LDriftKin$Pieces;", .fieldLink RX5 46 "DriftKin$Pieces" "place" "[I", .static yX8_at, .initialized RX8, .fieldLink RX5 21 "DriftKin$Shore" "houses" "LDriftKin$Houses;", .static yX8_put, .fieldLink RX5 62 "DriftKin$Houses" "piece" "[I"] : List Cond), w ∈ wtX5_takeHome := fun w h => List.mem_cons_of_mem _ (inl h)
theorem imX5_takeHome_u_X0 : ∀ w ∈ (u_ws RX0 TX0 3 : List Cond), w ∈ wtX5_takeHome := fun w h => List.mem_cons_of_mem _ (inr (inl h))
theorem imX5_takeHome_u_X3 : ∀ w ∈ (u_ws RX3 TX3 7 : List Cond), w ∈ wtX5_takeHome := fun w h => List.mem_cons_of_mem _ (inr (inr (inl h)))
theorem imX5_takeHome_u_X5 : ∀ w ∈ (u_ws RX5 TX5 4 : List Cond), w ∈ wtX5_takeHome := fun w h => List.mem_cons_of_mem _ (inr (inr (inr (inl h))))
theorem imX5_takeHome_c_X8_at : ∀ w ∈ (wtX8_at : List Cond), w ∈ wtX5_takeHome := fun w h => List.mem_cons_of_mem _ (inr (inr (inr (inr (inl h)))))
theorem imX5_takeHome_c_X0_isOfNone : ∀ w ∈ (wsV RX5 58 RX0 yX0_isOfNone wtX0_isOfNone : List Cond), w ∈ wtX5_takeHome := fun w h => List.mem_cons_of_mem _ (inr (inr (inr (inr (inr (inl h))))))
theorem imX5_takeHome_c_X8_put : ∀ w ∈ (wtX8_put : List Cond), w ∈ wtX5_takeHome := fun w h => List.mem_cons_of_mem _ (inr (inr (inr (inr (inr (inr (inl h)))))))
theorem gdX5_takeHome : ∀ w ∈ wtX5_takeHome, Gd w := gdc rfl (gda (gdl (by decide +kernel)) (gda (gdu _ _ _) (gda (gdu _ _ _) (gda (gdu _ _ _) (gda gdX8_at (gda (gda (gdl (by decide +kernel)) gdX0_isOfNone) (gda gdX8_put gdn)))))))
theorem gcX5_takeHome_X8_at : GoodIn wtX5_takeHome (wtX8_at) := fun w h => ⟨imX5_takeHome_c_X8_at w h, gdX8_at w h⟩
theorem gcX5_takeHome_X0_isOfNone : GoodIn wtX5_takeHome (wsV RX5 58 RX0 yX0_isOfNone wtX0_isOfNone) := fun w h => ⟨imX5_takeHome_c_X0_isOfNone w h, (gda (gdl (by decide +kernel)) gdX0_isOfNone) w h⟩
theorem gcX5_takeHome_X8_put : GoodIn wtX5_takeHome (wtX8_put) := fun w h => ⟨imX5_takeHome_c_X8_put w h, gdX8_put w h⟩
def fX5_takeHome (v_place : Nat → Int32) (v_piece : Nat → Int32) (x1 : Int32) (x2 : Int32) : Option (Int32 × (Nat → Int32) × (Nat → Int32)) :=
  (fX8_at 10 v_place x2).bind (fun r1 =>
    if r1 = (1 : Int32) then
      (fX0_isOfNone v_piece x1).bind (fun r3 =>
        if r3 = (0 : Int32) then
          some ((2 : Int32), v_place, v_piece)
        else
          (fX8_put 10 v_place x2 (2 : Int32)).bind (fun r5 =>
            (fX8_put 8 v_piece x1 x2).bind (fun r6 =>
              some ((0 : Int32), r5, r6))))
    else
      some ((1 : Int32), v_place, v_piece))
def wdX5_takeHome (cI cZ : ClassId) (q0 : Nat) (q1 : Nat) (q2 : Nat) (q3 : Nat) (q4 : Nat) (d5 : Nat) (d6 : Nat) (d7 : Nat) (d8 : Nat) (d9 : Nat) (d10 : Nat) (d11 : Nat) (d12 : Nat) (d13 : Nat)  (v_place : Nat → Int32) (v_piece : Nat → Int32) (v_year : Int32) : va_W := [(q0, .inr (5, [.ref q1, .ref q3, .ref d5, .int v_year])), (q1, .inr (3, [.ref d6, .ref d7, .ref d8, .ref d9, .ref d10, .ref q2, .ref d11])), (q2, .inl (cI, 10, .inl v_place)), (q3, .inr (0, [.ref q4, .ref d12, .ref d13])), (q4, .inl (cI, 8, .inl v_piece))]
abbrev rmX5_takeHome : Jvm.Room := { frames := 2, cells := 0, slots := 0, locals := 42 }
theorem hyX5_takeHome : yX5_takeHome.cls ≠ "java/lang/invoke/MethodHandle" ∧ yX5_takeHome.cls ≠ "java/lang/invoke/VarHandle" ∧ (parseMethodDescriptor yX5_takeHome.desc).map (fun d => d.parameters.length) = some 2 := by decide +kernel
set_option maxHeartbeats 4000000 in
set_option maxRecDepth 100000 in
theorem mX5_takeHome (l : Launch) (D : va_G) (cI cZ : ClassId) (q0 : Nat) (q1 : Nat) (q2 : Nat) (q3 : Nat) (q4 : Nat) (d5 : Nat) (d6 : Nat) (d7 : Nat) (d8 : Nat) (d9 : Nat) (d10 : Nat) (d11 : Nat) (d12 : Nat) (d13 : Nat) (v_place : Nat → Int32) (v_piece : Nat → Int32) (v_year : Int32) (x1 : Int32) (x2 : Int32) (z : Int32 × (Nat → Int32) × (Nat → Int32)) (hF : fX5_takeHome v_place v_piece x1 x2 = some z) : mp l yX5_takeHome wtX5_takeHome rmX5_takeHome D cI cZ [.ref q0, .int x1, .int x2] (wdX5_takeHome cI cZ q0 q1 q2 q3 q4 d5 d6 d7 d8 d9 d10 d11 d12 d13 v_place v_piece v_year) (some (.int z.1)) (wdX5_takeHome cI cZ q0 q1 q2 q3 q4 d5 d6 d7 d8 d9 d10 d11 d12 d13 z.2.1 z.2.2 v_year) := by
  refine mp_i (lv0 := [(0, .ref q0), (1, .int x1), (2, .int x2)]) cX5_takeHome 3 z.1 (by decide) rfl (Nat.le_of_ble_eq_true rfl) rfl (fun E h hend0 => ?_)
  have hend : ∀ (z' : Int32 × (Nat → Int32) × (Nat → Int32)), some z' = some z → ∀ (pc : Nat) (lv : List (Nat × Value)), decode cX5_takeHome pc = .ok (.ireturn, 1) → G l D E 3 0 0 (wdX5_takeHome cI cZ q0 q1 q2 q3 q4 d5 d6 d7 d8 d9 d10 d11 d12 d13 (z'.2.1) (z'.2.2) v_year) pc lv [.int z'.1] := fun z' e => by cases e; exact hend0
  clear hend0
  unfold fX5_takeHome at hF
  refine g_aload_n (np := 1) h 0 rfl rfl dX5_takeHome_0 rfl ?_
  refine g_get (np := 4) (T := TX5) h imX5_takeHome_u_X5 0 5 rfl rfl 0 (by decide) (imX5_takeHome_own _ (List.mem_of_getElem? (i := 0) rfl)) rfl dX5_takeHome_1 rfl ?_
  refine g_get (np := 7) (T := TX3) h imX5_takeHome_u_X3 1 3 rfl rfl 5 (by decide) (imX5_takeHome_own _ (List.mem_of_getElem? (i := 1) rfl)) rfl dX5_takeHome_4 rfl ?_
  refine g_iload_n (np := 8) h 2 rfl rfl dX5_takeHome_7 rfl ?_
  obtain ⟨r1, hr1, hF⟩ := Option.bind_eq_some_iff.mp hF
  refine g_callN (np := 11) (Wd' := (wdX5_takeHome cI cZ q0 q1 q2 q3 q4 d5 d6 d7 d8 d9 d10 d11 d12 d13 v_place v_piece v_year)) (As := [.ref q2, .int x2]) h (mX8_at l D cI cZ q2 10 v_place x2 r1 hr1) gcX5_takeHome_X8_at rfl ⟨rfl, rfl⟩ (List.mem_of_getElem? (i := 16) rfl) (imX5_takeHome_own _ (List.mem_of_getElem? (i := 3) rfl)) (imX5_takeHome_own _ (List.mem_of_getElem? (i := 2) rfl)) hyX8_at rfl rfl rfl rfl ⟨Nat.zero_le _, Nat.zero_le _⟩ [2] [0, 1, 3, 4] (N := 5) (by decide +kernel) rfl rfl rfl rfl rfl dX5_takeHome_8 rfl ?_
  refine g_iconst (np := 12) (v := (1 : Int32)) h (by decide) dX5_takeHome_11 rfl ?_
  refine g_icmp_eq h hF dX5_takeHome_12 (np := 15) rfl (tg := 17) rfl (fun c2 hF => ?_) (fun c2 hF => ?_)
  · refine g_aload_n (np := 18) h 0 rfl rfl dX5_takeHome_17 rfl ?_
    refine g_get (np := 21) (T := TX5) h imX5_takeHome_u_X5 0 5 rfl rfl 1 (by decide) (imX5_takeHome_own _ (List.mem_of_getElem? (i := 4) rfl)) rfl dX5_takeHome_18 rfl ?_
    refine g_iload_n (np := 22) h 1 rfl rfl dX5_takeHome_21 rfl ?_
    obtain ⟨r3, hr3, hF⟩ := Option.bind_eq_some_iff.mp hF
    refine g_callV (np := 25) (Wd' := (wdX5_takeHome cI cZ q0 q1 q2 q3 q4 d5 d6 d7 d8 d9 d10 d11 d12 d13 v_place v_piece v_year)) (As := [.int x1]) h (mX0_isOfNone l D cI cZ q3 q4 d12 d13 v_piece x1 r3 hr3) gcX5_takeHome_X0_isOfNone rfl ⟨rfl, rfl⟩ ⟨rfl, hyX0_isOfNone⟩ rfl 0 3 rfl rfl rfl rfl rfl rfl ⟨Nat.zero_le _, Nat.zero_le _⟩ [3, 4] [0, 1, 2] (N := 5) (by decide +kernel) rfl rfl rfl rfl rfl dX5_takeHome_22 rfl ?_
    refine g_if_ne h hF dX5_takeHome_25 (np := 28) rfl (tg := 30) rfl (fun c4 hF => ?_) (fun c4 hF => ?_)
    · refine g_aload_n (np := 31) h 0 rfl rfl dX5_takeHome_30 rfl ?_
      refine g_get (np := 34) (T := TX5) h imX5_takeHome_u_X5 0 5 rfl rfl 0 (by decide) (imX5_takeHome_own _ (List.mem_of_getElem? (i := 0) rfl)) rfl dX5_takeHome_31 rfl ?_
      refine g_get (np := 37) (T := TX3) h imX5_takeHome_u_X3 1 3 rfl rfl 5 (by decide) (imX5_takeHome_own _ (List.mem_of_getElem? (i := 1) rfl)) rfl dX5_takeHome_34 rfl ?_
      refine g_iload_n (np := 38) h 2 rfl rfl dX5_takeHome_37 rfl ?_
      refine g_iconst (np := 39) (v := (2 : Int32)) h (by decide) dX5_takeHome_38 rfl ?_
      obtain ⟨r5, hr5, hF⟩ := Option.bind_eq_some_iff.mp hF
      refine g_callN (np := 42) (Wd' := (wdX5_takeHome cI cZ q0 q1 q2 q3 q4 d5 d6 d7 d8 d9 d10 d11 d12 d13 r5 v_piece v_year)) (As := [.ref q2, .int x2, .int (2 : Int32)]) h (mX8_put l D cI cZ q2 10 v_place x2 (2 : Int32) r5 hr5) gcX5_takeHome_X8_put rfl ⟨rfl, rfl⟩ (List.mem_of_getElem? (i := 18) rfl) (imX5_takeHome_own _ (List.mem_of_getElem? (i := 3) rfl)) (imX5_takeHome_own _ (List.mem_of_getElem? (i := 5) rfl)) hyX8_put rfl rfl rfl rfl ⟨Nat.zero_le _, Nat.zero_le _⟩ [2] [0, 1, 3, 4] (N := 5) (by decide +kernel) rfl rfl rfl rfl rfl dX5_takeHome_39 rfl ?_
      refine g_aload_n (np := 43) h 0 rfl rfl dX5_takeHome_42 rfl ?_
      refine g_get (np := 46) (T := TX5) h imX5_takeHome_u_X5 0 5 rfl rfl 1 (by decide) (imX5_takeHome_own _ (List.mem_of_getElem? (i := 4) rfl)) rfl dX5_takeHome_43 rfl ?_
      refine g_get (np := 49) (T := TX0) h imX5_takeHome_u_X0 3 0 rfl rfl 0 (by decide) (imX5_takeHome_own _ (List.mem_of_getElem? (i := 6) rfl)) rfl dX5_takeHome_46 rfl ?_
      refine g_iload_n (np := 50) h 1 rfl rfl dX5_takeHome_49 rfl ?_
      refine g_iload_n (np := 51) h 2 rfl rfl dX5_takeHome_50 rfl ?_
      obtain ⟨r6, hr6, hF⟩ := Option.bind_eq_some_iff.mp hF
      refine g_callN (np := 54) (Wd' := (wdX5_takeHome cI cZ q0 q1 q2 q3 q4 d5 d6 d7 d8 d9 d10 d11 d12 d13 r5 r6 v_year)) (As := [.ref q4, .int x1, .int x2]) h (mX8_put l D cI cZ q4 8 v_piece x1 x2 r6 hr6) gcX5_takeHome_X8_put rfl ⟨rfl, rfl⟩ (List.mem_of_getElem? (i := 18) rfl) (imX5_takeHome_own _ (List.mem_of_getElem? (i := 3) rfl)) (imX5_takeHome_own _ (List.mem_of_getElem? (i := 5) rfl)) hyX8_put rfl rfl rfl rfl ⟨Nat.zero_le _, Nat.zero_le _⟩ [4] [0, 1, 2, 3] (N := 5) (by decide +kernel) rfl rfl rfl rfl rfl dX5_takeHome_51 rfl ?_
      refine g_iconst (np := 55) (v := (0 : Int32)) h (by decide) dX5_takeHome_54 rfl ?_
      exact hend _ hF _ _ dX5_takeHome_55
    · refine g_iconst (np := 29) (v := (2 : Int32)) h (by decide) dX5_takeHome_28 rfl ?_
      exact hend _ hF _ _ dX5_takeHome_29
  · refine g_iconst (np := 16) (v := (1 : Int32)) h (by decide) dX5_takeHome_15 rfl ?_
    exact hend _ hF _ _ dX5_takeHome_16
theorem dX5_wreckOf_0 : decode cX5_wreckOf 0 = .ok (.aload_n 0, 1) := by decide +kernel
theorem dX5_wreckOf_1 : decode cX5_wreckOf 1 = .ok (.getfield 12, 3) := by decide +kernel
theorem dX5_wreckOf_4 : decode cX5_wreckOf 4 = .ok (.getfield 78, 3) := by decide +kernel
theorem dX5_wreckOf_7 : decode cX5_wreckOf 7 = .ok (.aload_n 0, 1) := by decide +kernel
theorem dX5_wreckOf_8 : decode cX5_wreckOf 8 = .ok (.getfield 21, 3) := by decide +kernel
theorem dX5_wreckOf_11 : decode cX5_wreckOf 11 = .ok (.getfield 62, 3) := by decide +kernel
theorem dX5_wreckOf_14 : decode cX5_wreckOf 14 = .ok (.iload_n 1, 1) := by decide +kernel
theorem dX5_wreckOf_15 : decode cX5_wreckOf 15 = .ok (.invokestatic 50, 3) := by decide +kernel
theorem dX5_wreckOf_18 : decode cX5_wreckOf 18 = .ok (.invokestatic 50, 3) := by decide +kernel
theorem dX5_wreckOf_21 : decode cX5_wreckOf 21 = .ok (.ireturn, 1) := by decide +kernel
def wtX5_wreckOf : List Cond := .code yX5_wreckOf cX5_wreckOf 2 (some .int) :: (([.fieldLink RX5 12 "DriftKin$Shore" "pieces" "LDriftKin$Pieces;", .fieldLink RX5 78 "DriftKin$Pieces" "wreck" "[I", .fieldLink RX5 21 "DriftKin$Shore" "houses" "LDriftKin$Houses;", .fieldLink RX5 62 "DriftKin$Houses" "piece" "[I", .static yX8_at, .initialized RX8]) ++ ((u_ws RX0 TX0 3) ++ ((u_ws RX3 TX3 7) ++ ((u_ws RX5 TX5 4) ++ ((wtX8_at) ++ [])))))
theorem imX5_wreckOf_own : ∀ w ∈ ([.fieldLink RX5 12 "DriftKin$Shore" "pieces" "LDriftKin$Pieces;", .fieldLink RX5 78 "DriftKin$Pieces" "wreck" "[I", .fieldLink RX5 21 "DriftKin$Shore" "houses" "LDriftKin$Houses;", .fieldLink RX5 62 "DriftKin$Houses" "piece" "[I", .static yX8_at, .initialized RX8] : List Cond), w ∈ wtX5_wreckOf := fun w h => List.mem_cons_of_mem _ (inl h)
theorem imX5_wreckOf_u_X0 : ∀ w ∈ (u_ws RX0 TX0 3 : List Cond), w ∈ wtX5_wreckOf := fun w h => List.mem_cons_of_mem _ (inr (inl h))
theorem imX5_wreckOf_u_X3 : ∀ w ∈ (u_ws RX3 TX3 7 : List Cond), w ∈ wtX5_wreckOf := fun w h => List.mem_cons_of_mem _ (inr (inr (inl h)))
theorem imX5_wreckOf_u_X5 : ∀ w ∈ (u_ws RX5 TX5 4 : List Cond), w ∈ wtX5_wreckOf := fun w h => List.mem_cons_of_mem _ (inr (inr (inr (inl h))))
theorem imX5_wreckOf_c_X8_at : ∀ w ∈ (wtX8_at : List Cond), w ∈ wtX5_wreckOf := fun w h => List.mem_cons_of_mem _ (inr (inr (inr (inr (inl h)))))
theorem gdX5_wreckOf : ∀ w ∈ wtX5_wreckOf, Gd w := gdc rfl (gda (gdl (by decide +kernel)) (gda (gdu _ _ _) (gda (gdu _ _ _) (gda (gdu _ _ _) (gda gdX8_at gdn)))))
theorem gcX5_wreckOf_X8_at : GoodIn wtX5_wreckOf (wtX8_at) := fun w h => ⟨imX5_wreckOf_c_X8_at w h, gdX8_at w h⟩
def fX5_wreckOf (v_wreck : Nat → Int32) (v_piece : Nat → Int32) (x1 : Int32) : Option (Int32) :=
  (fX8_at 8 v_piece x1).bind (fun r1 =>
    (fX8_at 10 v_wreck r1).bind (fun r2 =>
      some r2))
def wdX5_wreckOf (cI cZ : ClassId) (q0 : Nat) (q1 : Nat) (q2 : Nat) (q3 : Nat) (q4 : Nat) (d5 : Nat) (d6 : Nat) (d7 : Nat) (d8 : Nat) (d9 : Nat) (d10 : Nat) (d11 : Nat) (d12 : Nat) (d13 : Nat)  (v_wreck : Nat → Int32) (v_piece : Nat → Int32) (v_year : Int32) : va_W := [(q0, .inr (5, [.ref q1, .ref q3, .ref d5, .int v_year])), (q1, .inr (3, [.ref q2, .ref d6, .ref d7, .ref d8, .ref d9, .ref d10, .ref d11])), (q2, .inl (cI, 10, .inl v_wreck)), (q3, .inr (0, [.ref q4, .ref d12, .ref d13])), (q4, .inl (cI, 8, .inl v_piece))]
abbrev rmX5_wreckOf : Jvm.Room := { frames := 1, cells := 0, slots := 0, locals := 21 }
theorem hyX5_wreckOf : yX5_wreckOf.cls ≠ "java/lang/invoke/MethodHandle" ∧ yX5_wreckOf.cls ≠ "java/lang/invoke/VarHandle" ∧ (parseMethodDescriptor yX5_wreckOf.desc).map (fun d => d.parameters.length) = some 1 := by decide +kernel
set_option maxHeartbeats 4000000 in
set_option maxRecDepth 100000 in
theorem mX5_wreckOf (l : Launch) (D : va_G) (cI cZ : ClassId) (q0 : Nat) (q1 : Nat) (q2 : Nat) (q3 : Nat) (q4 : Nat) (d5 : Nat) (d6 : Nat) (d7 : Nat) (d8 : Nat) (d9 : Nat) (d10 : Nat) (d11 : Nat) (d12 : Nat) (d13 : Nat) (v_wreck : Nat → Int32) (v_piece : Nat → Int32) (v_year : Int32) (x1 : Int32) (z : Int32) (hF : fX5_wreckOf v_wreck v_piece x1 = some z) : mp l yX5_wreckOf wtX5_wreckOf rmX5_wreckOf D cI cZ [.ref q0, .int x1] (wdX5_wreckOf cI cZ q0 q1 q2 q3 q4 d5 d6 d7 d8 d9 d10 d11 d12 d13 v_wreck v_piece v_year) (some (.int z)) (wdX5_wreckOf cI cZ q0 q1 q2 q3 q4 d5 d6 d7 d8 d9 d10 d11 d12 d13 v_wreck v_piece v_year) := by
  refine mp_i (lv0 := [(0, .ref q0), (1, .int x1)]) cX5_wreckOf 2 z (by decide) rfl (Nat.le_of_ble_eq_true rfl) rfl (fun E h hend0 => ?_)
  have hend : ∀ (z' : Int32), some z' = some z → ∀ (pc : Nat) (lv : List (Nat × Value)), decode cX5_wreckOf pc = .ok (.ireturn, 1) → G l D E 2 0 0 (wdX5_wreckOf cI cZ q0 q1 q2 q3 q4 d5 d6 d7 d8 d9 d10 d11 d12 d13 v_wreck v_piece v_year) pc lv [.int z'] := fun z' e => by cases e; exact hend0
  clear hend0
  unfold fX5_wreckOf at hF
  refine g_aload_n (np := 1) h 0 rfl rfl dX5_wreckOf_0 rfl ?_
  refine g_get (np := 4) (T := TX5) h imX5_wreckOf_u_X5 0 5 rfl rfl 0 (by decide) (imX5_wreckOf_own _ (List.mem_of_getElem? (i := 0) rfl)) rfl dX5_wreckOf_1 rfl ?_
  refine g_get (np := 7) (T := TX3) h imX5_wreckOf_u_X3 1 3 rfl rfl 0 (by decide) (imX5_wreckOf_own _ (List.mem_of_getElem? (i := 1) rfl)) rfl dX5_wreckOf_4 rfl ?_
  refine g_aload_n (np := 8) h 0 rfl rfl dX5_wreckOf_7 rfl ?_
  refine g_get (np := 11) (T := TX5) h imX5_wreckOf_u_X5 0 5 rfl rfl 1 (by decide) (imX5_wreckOf_own _ (List.mem_of_getElem? (i := 2) rfl)) rfl dX5_wreckOf_8 rfl ?_
  refine g_get (np := 14) (T := TX0) h imX5_wreckOf_u_X0 3 0 rfl rfl 0 (by decide) (imX5_wreckOf_own _ (List.mem_of_getElem? (i := 3) rfl)) rfl dX5_wreckOf_11 rfl ?_
  refine g_iload_n (np := 15) h 1 rfl rfl dX5_wreckOf_14 rfl ?_
  obtain ⟨r1, hr1, hF⟩ := Option.bind_eq_some_iff.mp hF
  refine g_callN (np := 18) (Wd' := (wdX5_wreckOf cI cZ q0 q1 q2 q3 q4 d5 d6 d7 d8 d9 d10 d11 d12 d13 v_wreck v_piece v_year)) (As := [.ref q4, .int x1]) h (mX8_at l D cI cZ q4 8 v_piece x1 r1 hr1) gcX5_wreckOf_X8_at rfl ⟨rfl, rfl⟩ (List.mem_of_getElem? (i := 16) rfl) (imX5_wreckOf_own _ (List.mem_of_getElem? (i := 5) rfl)) (imX5_wreckOf_own _ (List.mem_of_getElem? (i := 4) rfl)) hyX8_at rfl rfl rfl rfl ⟨Nat.zero_le _, Nat.zero_le _⟩ [4] [0, 1, 2, 3] (N := 5) (by decide +kernel) rfl rfl rfl rfl rfl dX5_wreckOf_15 rfl ?_
  obtain ⟨r2, hr2, hF⟩ := Option.bind_eq_some_iff.mp hF
  refine g_callN (np := 21) (Wd' := (wdX5_wreckOf cI cZ q0 q1 q2 q3 q4 d5 d6 d7 d8 d9 d10 d11 d12 d13 v_wreck v_piece v_year)) (As := [.ref q2, .int r1]) h (mX8_at l D cI cZ q2 10 v_wreck r1 r2 hr2) gcX5_wreckOf_X8_at rfl ⟨rfl, rfl⟩ (List.mem_of_getElem? (i := 16) rfl) (imX5_wreckOf_own _ (List.mem_of_getElem? (i := 5) rfl)) (imX5_wreckOf_own _ (List.mem_of_getElem? (i := 4) rfl)) hyX8_at rfl rfl rfl rfl ⟨Nat.zero_le _, Nat.zero_le _⟩ [2] [0, 1, 3, 4] (N := 5) (by decide +kernel) rfl rfl rfl rfl rfl dX5_wreckOf_18 rfl ?_
  exact hend _ hF _ _ dX5_wreckOf_21
theorem dX5_marry_0 : decode cX5_marry 0 = .ok (.aload_n 0, 1) := by decide +kernel
theorem dX5_marry_1 : decode cX5_marry 1 = .ok (.getfield 21, 3) := by decide +kernel
theorem dX5_marry_4 : decode cX5_marry 4 = .ok (.iload_n 1, 1) := by decide +kernel
theorem dX5_marry_5 : decode cX5_marry 5 = .ok (.invokevirtual 58, 3) := by decide +kernel
theorem dX5_marry_8 : decode cX5_marry 8 = .ok (.ifCond .ne 14, 3) := by decide +kernel
theorem dX5_marry_11 : decode cX5_marry 11 = .ok (.aload_n 0, 1) := by decide +kernel
theorem dX5_marry_12 : decode cX5_marry 12 = .ok (.getfield 21, 3) := by decide +kernel
theorem dX5_marry_15 : decode cX5_marry 15 = .ok (.iload_n 2, 1) := by decide +kernel
theorem dX5_marry_16 : decode cX5_marry 16 = .ok (.invokevirtual 58, 3) := by decide +kernel
theorem dX5_marry_19 : decode cX5_marry 19 = .ok (.ifCond .eq 5, 3) := by decide +kernel
theorem dX5_marry_22 : decode cX5_marry 22 = .ok (.iconst 2, 1) := by decide +kernel
theorem dX5_marry_23 : decode cX5_marry 23 = .ok (.ireturn, 1) := by decide +kernel
theorem dX5_marry_24 : decode cX5_marry 24 = .ok (.iload_n 1, 1) := by decide +kernel
theorem dX5_marry_25 : decode cX5_marry 25 = .ok (.iload_n 2, 1) := by decide +kernel
theorem dX5_marry_26 : decode cX5_marry 26 = .ok (.if_icmp .ne 5, 3) := by decide +kernel
theorem dX5_marry_29 : decode cX5_marry 29 = .ok (.iconst 3, 1) := by decide +kernel
theorem dX5_marry_30 : decode cX5_marry 30 = .ok (.ireturn, 1) := by decide +kernel
theorem dX5_marry_31 : decode cX5_marry 31 = .ok (.aload_n 0, 1) := by decide +kernel
theorem dX5_marry_32 : decode cX5_marry 32 = .ok (.getfield 21, 3) := by decide +kernel
theorem dX5_marry_35 : decode cX5_marry 35 = .ok (.iload_n 1, 1) := by decide +kernel
theorem dX5_marry_36 : decode cX5_marry 36 = .ok (.invokevirtual 65, 3) := by decide +kernel
theorem dX5_marry_39 : decode cX5_marry 39 = .ok (.ifCond .ne 14, 3) := by decide +kernel
theorem dX5_marry_42 : decode cX5_marry 42 = .ok (.aload_n 0, 1) := by decide +kernel
theorem dX5_marry_43 : decode cX5_marry 43 = .ok (.getfield 21, 3) := by decide +kernel
theorem dX5_marry_46 : decode cX5_marry 46 = .ok (.iload_n 2, 1) := by decide +kernel
theorem dX5_marry_47 : decode cX5_marry 47 = .ok (.invokevirtual 65, 3) := by decide +kernel
theorem dX5_marry_50 : decode cX5_marry 50 = .ok (.ifCond .eq 5, 3) := by decide +kernel
theorem dX5_marry_53 : decode cX5_marry 53 = .ok (.iconst 4, 1) := by decide +kernel
theorem dX5_marry_54 : decode cX5_marry 54 = .ok (.ireturn, 1) := by decide +kernel
theorem dX5_marry_55 : decode cX5_marry 55 = .ok (.aload_n 0, 1) := by decide +kernel
theorem dX5_marry_56 : decode cX5_marry 56 = .ok (.iload_n 1, 1) := by decide +kernel
theorem dX5_marry_57 : decode cX5_marry 57 = .ok (.invokevirtual 68, 3) := by decide +kernel
theorem dX5_marry_60 : decode cX5_marry 60 = .ok (.aload_n 0, 1) := by decide +kernel
theorem dX5_marry_61 : decode cX5_marry 61 = .ok (.iload_n 2, 1) := by decide +kernel
theorem dX5_marry_62 : decode cX5_marry 62 = .ok (.invokevirtual 68, 3) := by decide +kernel
theorem dX5_marry_65 : decode cX5_marry 65 = .ok (.if_icmp .ne 5, 3) := by decide +kernel
theorem dX5_marry_68 : decode cX5_marry 68 = .ok (.iconst 5, 1) := by decide +kernel
theorem dX5_marry_69 : decode cX5_marry 69 = .ok (.ireturn, 1) := by decide +kernel
theorem dX5_marry_70 : decode cX5_marry 70 = .ok (.aload_n 0, 1) := by decide +kernel
theorem dX5_marry_71 : decode cX5_marry 71 = .ok (.getfield 21, 3) := by decide +kernel
theorem dX5_marry_74 : decode cX5_marry 74 = .ok (.getfield 72, 3) := by decide +kernel
theorem dX5_marry_77 : decode cX5_marry 77 = .ok (.iload_n 1, 1) := by decide +kernel
theorem dX5_marry_78 : decode cX5_marry 78 = .ok (.iload_n 2, 1) := by decide +kernel
theorem dX5_marry_79 : decode cX5_marry 79 = .ok (.invokestatic 54, 3) := by decide +kernel
theorem dX5_marry_82 : decode cX5_marry 82 = .ok (.aload_n 0, 1) := by decide +kernel
theorem dX5_marry_83 : decode cX5_marry 83 = .ok (.getfield 21, 3) := by decide +kernel
theorem dX5_marry_86 : decode cX5_marry 86 = .ok (.getfield 72, 3) := by decide +kernel
theorem dX5_marry_89 : decode cX5_marry 89 = .ok (.iload_n 2, 1) := by decide +kernel
theorem dX5_marry_90 : decode cX5_marry 90 = .ok (.iload_n 1, 1) := by decide +kernel
theorem dX5_marry_91 : decode cX5_marry 91 = .ok (.invokestatic 54, 3) := by decide +kernel
theorem dX5_marry_94 : decode cX5_marry 94 = .ok (.iconst 0, 1) := by decide +kernel
theorem dX5_marry_95 : decode cX5_marry 95 = .ok (.ireturn, 1) := by decide +kernel
def wtX5_marry : List Cond := .code yX5_marry cX5_marry 3 (some .int) :: (([.fieldLink RX5 21 "DriftKin$Shore" "houses" "LDriftKin$Houses;", .fieldLink RX5 72 "DriftKin$Houses" "partner" "[I", .static yX8_put, .initialized RX8]) ++ ((u_ws RX0 TX0 3) ++ ((u_ws RX5 TX5 4) ++ ((wsV RX5 58 RX0 yX0_isOfNone wtX0_isOfNone) ++ ((wsV RX5 65 RX0 yX0_isWed wtX0_isWed) ++ ((wsV RX5 68 RX5 yX5_wreckOf wtX5_wreckOf) ++ ((wtX8_put) ++ [])))))))
theorem imX5_marry_own : ∀ w ∈ ([.fieldLink RX5 21 "DriftKin$Shore" "houses" "LDriftKin$Houses;", .fieldLink RX5 72 "DriftKin$Houses" "partner" "[I", .static yX8_put, .initialized RX8] : List Cond), w ∈ wtX5_marry := fun w h => List.mem_cons_of_mem _ (inl h)
theorem imX5_marry_u_X0 : ∀ w ∈ (u_ws RX0 TX0 3 : List Cond), w ∈ wtX5_marry := fun w h => List.mem_cons_of_mem _ (inr (inl h))
theorem imX5_marry_u_X5 : ∀ w ∈ (u_ws RX5 TX5 4 : List Cond), w ∈ wtX5_marry := fun w h => List.mem_cons_of_mem _ (inr (inr (inl h)))
theorem imX5_marry_c_X0_isOfNone : ∀ w ∈ (wsV RX5 58 RX0 yX0_isOfNone wtX0_isOfNone : List Cond), w ∈ wtX5_marry := fun w h => List.mem_cons_of_mem _ (inr (inr (inr (inl h))))
theorem imX5_marry_c_X0_isWed : ∀ w ∈ (wsV RX5 65 RX0 yX0_isWed wtX0_isWed : List Cond), w ∈ wtX5_marry := fun w h => List.mem_cons_of_mem _ (inr (inr (inr (inr (inl h)))))
theorem imX5_marry_c_X5_wreckOf : ∀ w ∈ (wsV RX5 68 RX5 yX5_wreckOf wtX5_wreckOf : List Cond), w ∈ wtX5_marry := fun w h => List.mem_cons_of_mem _ (inr (inr (inr (inr (inr (inl h))))))
theorem imX5_marry_c_X8_put : ∀ w ∈ (wtX8_put : List Cond), w ∈ wtX5_marry := fun w h => List.mem_cons_of_mem _ (inr (inr (inr (inr (inr (inr (inl h)))))))
theorem gdX5_marry : ∀ w ∈ wtX5_marry, Gd w := gdc rfl (gda (gdl (by decide +kernel)) (gda (gdu _ _ _) (gda (gdu _ _ _) (gda (gda (gdl (by decide +kernel)) gdX0_isOfNone) (gda (gda (gdl (by decide +kernel)) gdX0_isWed) (gda (gda (gdl (by decide +kernel)) gdX5_wreckOf) (gda gdX8_put gdn)))))))
theorem gcX5_marry_X0_isOfNone : GoodIn wtX5_marry (wsV RX5 58 RX0 yX0_isOfNone wtX0_isOfNone) := fun w h => ⟨imX5_marry_c_X0_isOfNone w h, (gda (gdl (by decide +kernel)) gdX0_isOfNone) w h⟩
theorem gcX5_marry_X0_isWed : GoodIn wtX5_marry (wsV RX5 65 RX0 yX0_isWed wtX0_isWed) := fun w h => ⟨imX5_marry_c_X0_isWed w h, (gda (gdl (by decide +kernel)) gdX0_isWed) w h⟩
theorem gcX5_marry_X5_wreckOf : GoodIn wtX5_marry (wsV RX5 68 RX5 yX5_wreckOf wtX5_wreckOf) := fun w h => ⟨imX5_marry_c_X5_wreckOf w h, (gda (gdl (by decide +kernel)) gdX5_wreckOf) w h⟩
theorem gcX5_marry_X8_put : GoodIn wtX5_marry (wtX8_put) := fun w h => ⟨imX5_marry_c_X8_put w h, gdX8_put w h⟩
def fX5_marry (v_wreck : Nat → Int32) (v_piece : Nat → Int32) (v_partner : Nat → Int32) (x1 : Int32) (x2 : Int32) : Option (Int32 × (Nat → Int32)) :=
  (fX0_isOfNone v_piece x1).bind (fun r1 =>
    if r1 = (0 : Int32) then
      (fX0_isOfNone v_piece x2).bind (fun r3 =>
        if r3 = (0 : Int32) then
          if x1 = x2 then
            some ((3 : Int32), v_partner)
          else
            (fX0_isWed v_partner x1).bind (fun r6 =>
              if r6 = (0 : Int32) then
                (fX0_isWed v_partner x2).bind (fun r8 =>
                  if r8 = (0 : Int32) then
                    (fX5_wreckOf v_wreck v_piece x1).bind (fun r10 =>
                      (fX5_wreckOf v_wreck v_piece x2).bind (fun r11 =>
                        if r10 = r11 then
                          some ((5 : Int32), v_partner)
                        else
                          (fX8_put 8 v_partner x1 x2).bind (fun r13 =>
                            (fX8_put 8 r13 x2 x1).bind (fun r14 =>
                              some ((0 : Int32), r14)))))
                  else
                    some ((4 : Int32), v_partner))
              else
                some ((4 : Int32), v_partner))
        else
          some ((2 : Int32), v_partner))
    else
      some ((2 : Int32), v_partner))
def wdX5_marry (cI cZ : ClassId) (q0 : Nat) (q1 : Nat) (q2 : Nat) (q3 : Nat) (q4 : Nat) (q5 : Nat) (d6 : Nat) (d7 : Nat) (d8 : Nat) (d9 : Nat) (d10 : Nat) (d11 : Nat) (d12 : Nat) (d13 : Nat)  (v_wreck : Nat → Int32) (v_piece : Nat → Int32) (v_partner : Nat → Int32) (v_year : Int32) : va_W := [(q0, .inr (5, [.ref q1, .ref q3, .ref d6, .int v_year])), (q1, .inr (3, [.ref q2, .ref d7, .ref d8, .ref d9, .ref d10, .ref d11, .ref d12])), (q2, .inl (cI, 10, .inl v_wreck)), (q3, .inr (0, [.ref q4, .ref q5, .ref d13])), (q4, .inl (cI, 8, .inl v_piece)), (q5, .inl (cI, 8, .inl v_partner))]
abbrev rmX5_marry : Jvm.Room := { frames := 2, cells := 0, slots := 0, locals := 42 }
theorem hyX5_marry : yX5_marry.cls ≠ "java/lang/invoke/MethodHandle" ∧ yX5_marry.cls ≠ "java/lang/invoke/VarHandle" ∧ (parseMethodDescriptor yX5_marry.desc).map (fun d => d.parameters.length) = some 2 := by decide +kernel
set_option maxHeartbeats 4000000 in
set_option maxRecDepth 100000 in
theorem mX5_marry (l : Launch) (D : va_G) (cI cZ : ClassId) (q0 : Nat) (q1 : Nat) (q2 : Nat) (q3 : Nat) (q4 : Nat) (q5 : Nat) (d6 : Nat) (d7 : Nat) (d8 : Nat) (d9 : Nat) (d10 : Nat) (d11 : Nat) (d12 : Nat) (d13 : Nat) (v_wreck : Nat → Int32) (v_piece : Nat → Int32) (v_partner : Nat → Int32) (v_year : Int32) (x1 : Int32) (x2 : Int32) (z : Int32 × (Nat → Int32)) (hF : fX5_marry v_wreck v_piece v_partner x1 x2 = some z) : mp l yX5_marry wtX5_marry rmX5_marry D cI cZ [.ref q0, .int x1, .int x2] (wdX5_marry cI cZ q0 q1 q2 q3 q4 q5 d6 d7 d8 d9 d10 d11 d12 d13 v_wreck v_piece v_partner v_year) (some (.int z.1)) (wdX5_marry cI cZ q0 q1 q2 q3 q4 q5 d6 d7 d8 d9 d10 d11 d12 d13 v_wreck v_piece z.2 v_year) := by
  refine mp_i (lv0 := [(0, .ref q0), (1, .int x1), (2, .int x2)]) cX5_marry 3 z.1 (by decide) rfl (Nat.le_of_ble_eq_true rfl) rfl (fun E h hend0 => ?_)
  have hend : ∀ (z' : Int32 × (Nat → Int32)), some z' = some z → ∀ (pc : Nat) (lv : List (Nat × Value)), decode cX5_marry pc = .ok (.ireturn, 1) → G l D E 3 0 0 (wdX5_marry cI cZ q0 q1 q2 q3 q4 q5 d6 d7 d8 d9 d10 d11 d12 d13 v_wreck v_piece (z'.2) v_year) pc lv [.int z'.1] := fun z' e => by cases e; exact hend0
  clear hend0
  unfold fX5_marry at hF
  refine g_aload_n (np := 1) h 0 rfl rfl dX5_marry_0 rfl ?_
  refine g_get (np := 4) (T := TX5) h imX5_marry_u_X5 0 5 rfl rfl 1 (by decide) (imX5_marry_own _ (List.mem_of_getElem? (i := 0) rfl)) rfl dX5_marry_1 rfl ?_
  refine g_iload_n (np := 5) h 1 rfl rfl dX5_marry_4 rfl ?_
  obtain ⟨r1, hr1, hF⟩ := Option.bind_eq_some_iff.mp hF
  refine g_callV (np := 8) (Wd' := (wdX5_marry cI cZ q0 q1 q2 q3 q4 q5 d6 d7 d8 d9 d10 d11 d12 d13 v_wreck v_piece v_partner v_year)) (As := [.int x1]) h (mX0_isOfNone l D cI cZ q3 q4 q5 d13 v_piece x1 r1 hr1) gcX5_marry_X0_isOfNone rfl ⟨rfl, rfl⟩ ⟨rfl, hyX0_isOfNone⟩ rfl 0 3 rfl rfl rfl rfl rfl rfl ⟨Nat.zero_le _, Nat.zero_le _⟩ [3, 4] [0, 1, 2, 5] (N := 6) (by decide +kernel) rfl rfl rfl rfl rfl dX5_marry_5 rfl ?_
  refine g_if_ne h hF dX5_marry_8 (np := 11) rfl (tg := 22) rfl (fun c2 hF => ?_) (fun c2 hF => ?_)
  · refine g_iconst (np := 23) (v := (2 : Int32)) h (by decide) dX5_marry_22 rfl ?_
    exact hend _ hF _ _ dX5_marry_23
  · refine g_aload_n (np := 12) h 0 rfl rfl dX5_marry_11 rfl ?_
    refine g_get (np := 15) (T := TX5) h imX5_marry_u_X5 0 5 rfl rfl 1 (by decide) (imX5_marry_own _ (List.mem_of_getElem? (i := 0) rfl)) rfl dX5_marry_12 rfl ?_
    refine g_iload_n (np := 16) h 2 rfl rfl dX5_marry_15 rfl ?_
    obtain ⟨r3, hr3, hF⟩ := Option.bind_eq_some_iff.mp hF
    refine g_callV (np := 19) (Wd' := (wdX5_marry cI cZ q0 q1 q2 q3 q4 q5 d6 d7 d8 d9 d10 d11 d12 d13 v_wreck v_piece v_partner v_year)) (As := [.int x2]) h (mX0_isOfNone l D cI cZ q3 q4 q5 d13 v_piece x2 r3 hr3) gcX5_marry_X0_isOfNone rfl ⟨rfl, rfl⟩ ⟨rfl, hyX0_isOfNone⟩ rfl 0 3 rfl rfl rfl rfl rfl rfl ⟨Nat.zero_le _, Nat.zero_le _⟩ [3, 4] [0, 1, 2, 5] (N := 6) (by decide +kernel) rfl rfl rfl rfl rfl dX5_marry_16 rfl ?_
    refine g_if_eq h hF dX5_marry_19 (np := 22) rfl (tg := 24) rfl (fun c4 hF => ?_) (fun c4 hF => ?_)
    · refine g_iload_n (np := 25) h 1 rfl rfl dX5_marry_24 rfl ?_
      refine g_iload_n (np := 26) h 2 rfl rfl dX5_marry_25 rfl ?_
      refine g_icmp_ne h hF dX5_marry_26 (np := 29) rfl (tg := 31) rfl (fun c5 hF => ?_) (fun c5 hF => ?_)
      · refine g_aload_n (np := 32) h 0 rfl rfl dX5_marry_31 rfl ?_
        refine g_get (np := 35) (T := TX5) h imX5_marry_u_X5 0 5 rfl rfl 1 (by decide) (imX5_marry_own _ (List.mem_of_getElem? (i := 0) rfl)) rfl dX5_marry_32 rfl ?_
        refine g_iload_n (np := 36) h 1 rfl rfl dX5_marry_35 rfl ?_
        obtain ⟨r6, hr6, hF⟩ := Option.bind_eq_some_iff.mp hF
        refine g_callV (np := 39) (Wd' := (wdX5_marry cI cZ q0 q1 q2 q3 q4 q5 d6 d7 d8 d9 d10 d11 d12 d13 v_wreck v_piece v_partner v_year)) (As := [.int x1]) h (mX0_isWed l D cI cZ q3 q5 q4 d13 v_partner x1 r6 hr6) gcX5_marry_X0_isWed rfl ⟨rfl, rfl⟩ ⟨rfl, hyX0_isWed⟩ rfl 0 3 rfl rfl rfl rfl rfl rfl ⟨Nat.zero_le _, Nat.zero_le _⟩ [3, 5] [0, 1, 2, 4] (N := 6) (by decide +kernel) rfl rfl rfl rfl rfl dX5_marry_36 rfl ?_
        refine g_if_ne h hF dX5_marry_39 (np := 42) rfl (tg := 53) rfl (fun c7 hF => ?_) (fun c7 hF => ?_)
        · refine g_iconst (np := 54) (v := (4 : Int32)) h (by decide) dX5_marry_53 rfl ?_
          exact hend _ hF _ _ dX5_marry_54
        · refine g_aload_n (np := 43) h 0 rfl rfl dX5_marry_42 rfl ?_
          refine g_get (np := 46) (T := TX5) h imX5_marry_u_X5 0 5 rfl rfl 1 (by decide) (imX5_marry_own _ (List.mem_of_getElem? (i := 0) rfl)) rfl dX5_marry_43 rfl ?_
          refine g_iload_n (np := 47) h 2 rfl rfl dX5_marry_46 rfl ?_
          obtain ⟨r8, hr8, hF⟩ := Option.bind_eq_some_iff.mp hF
          refine g_callV (np := 50) (Wd' := (wdX5_marry cI cZ q0 q1 q2 q3 q4 q5 d6 d7 d8 d9 d10 d11 d12 d13 v_wreck v_piece v_partner v_year)) (As := [.int x2]) h (mX0_isWed l D cI cZ q3 q5 q4 d13 v_partner x2 r8 hr8) gcX5_marry_X0_isWed rfl ⟨rfl, rfl⟩ ⟨rfl, hyX0_isWed⟩ rfl 0 3 rfl rfl rfl rfl rfl rfl ⟨Nat.zero_le _, Nat.zero_le _⟩ [3, 5] [0, 1, 2, 4] (N := 6) (by decide +kernel) rfl rfl rfl rfl rfl dX5_marry_47 rfl ?_
          refine g_if_eq h hF dX5_marry_50 (np := 53) rfl (tg := 55) rfl (fun c9 hF => ?_) (fun c9 hF => ?_)
          · refine g_aload_n (np := 56) h 0 rfl rfl dX5_marry_55 rfl ?_
            refine g_iload_n (np := 57) h 1 rfl rfl dX5_marry_56 rfl ?_
            obtain ⟨r10, hr10, hF⟩ := Option.bind_eq_some_iff.mp hF
            refine g_callV (np := 60) (Wd' := (wdX5_marry cI cZ q0 q1 q2 q3 q4 q5 d6 d7 d8 d9 d10 d11 d12 d13 v_wreck v_piece v_partner v_year)) (As := [.int x1]) h (mX5_wreckOf l D cI cZ q0 q1 q2 q3 q4 d6 d7 d8 d9 d10 d11 d12 q5 d13 v_wreck v_piece v_year x1 r10 hr10) gcX5_marry_X5_wreckOf rfl ⟨rfl, rfl⟩ ⟨rfl, hyX5_wreckOf⟩ rfl 5 0 rfl rfl rfl rfl rfl rfl ⟨Nat.zero_le _, Nat.zero_le _⟩ [0, 1, 2, 3, 4] [5] (N := 6) (by decide +kernel) rfl rfl rfl rfl rfl dX5_marry_57 rfl ?_
            refine g_aload_n (np := 61) h 0 rfl rfl dX5_marry_60 rfl ?_
            refine g_iload_n (np := 62) h 2 rfl rfl dX5_marry_61 rfl ?_
            obtain ⟨r11, hr11, hF⟩ := Option.bind_eq_some_iff.mp hF
            refine g_callV (np := 65) (Wd' := (wdX5_marry cI cZ q0 q1 q2 q3 q4 q5 d6 d7 d8 d9 d10 d11 d12 d13 v_wreck v_piece v_partner v_year)) (As := [.int x2]) h (mX5_wreckOf l D cI cZ q0 q1 q2 q3 q4 d6 d7 d8 d9 d10 d11 d12 q5 d13 v_wreck v_piece v_year x2 r11 hr11) gcX5_marry_X5_wreckOf rfl ⟨rfl, rfl⟩ ⟨rfl, hyX5_wreckOf⟩ rfl 5 0 rfl rfl rfl rfl rfl rfl ⟨Nat.zero_le _, Nat.zero_le _⟩ [0, 1, 2, 3, 4] [5] (N := 6) (by decide +kernel) rfl rfl rfl rfl rfl dX5_marry_62 rfl ?_
            refine g_icmp_ne h hF dX5_marry_65 (np := 68) rfl (tg := 70) rfl (fun c12 hF => ?_) (fun c12 hF => ?_)
            · refine g_aload_n (np := 71) h 0 rfl rfl dX5_marry_70 rfl ?_
              refine g_get (np := 74) (T := TX5) h imX5_marry_u_X5 0 5 rfl rfl 1 (by decide) (imX5_marry_own _ (List.mem_of_getElem? (i := 0) rfl)) rfl dX5_marry_71 rfl ?_
              refine g_get (np := 77) (T := TX0) h imX5_marry_u_X0 3 0 rfl rfl 1 (by decide) (imX5_marry_own _ (List.mem_of_getElem? (i := 1) rfl)) rfl dX5_marry_74 rfl ?_
              refine g_iload_n (np := 78) h 1 rfl rfl dX5_marry_77 rfl ?_
              refine g_iload_n (np := 79) h 2 rfl rfl dX5_marry_78 rfl ?_
              obtain ⟨r13, hr13, hF⟩ := Option.bind_eq_some_iff.mp hF
              refine g_callN (np := 82) (Wd' := (wdX5_marry cI cZ q0 q1 q2 q3 q4 q5 d6 d7 d8 d9 d10 d11 d12 d13 v_wreck v_piece r13 v_year)) (As := [.ref q5, .int x1, .int x2]) h (mX8_put l D cI cZ q5 8 v_partner x1 x2 r13 hr13) gcX5_marry_X8_put rfl ⟨rfl, rfl⟩ (List.mem_of_getElem? (i := 18) rfl) (imX5_marry_own _ (List.mem_of_getElem? (i := 3) rfl)) (imX5_marry_own _ (List.mem_of_getElem? (i := 2) rfl)) hyX8_put rfl rfl rfl rfl ⟨Nat.zero_le _, Nat.zero_le _⟩ [5] [0, 1, 2, 3, 4] (N := 6) (by decide +kernel) rfl rfl rfl rfl rfl dX5_marry_79 rfl ?_
              refine g_aload_n (np := 83) h 0 rfl rfl dX5_marry_82 rfl ?_
              refine g_get (np := 86) (T := TX5) h imX5_marry_u_X5 0 5 rfl rfl 1 (by decide) (imX5_marry_own _ (List.mem_of_getElem? (i := 0) rfl)) rfl dX5_marry_83 rfl ?_
              refine g_get (np := 89) (T := TX0) h imX5_marry_u_X0 3 0 rfl rfl 1 (by decide) (imX5_marry_own _ (List.mem_of_getElem? (i := 1) rfl)) rfl dX5_marry_86 rfl ?_
              refine g_iload_n (np := 90) h 2 rfl rfl dX5_marry_89 rfl ?_
              refine g_iload_n (np := 91) h 1 rfl rfl dX5_marry_90 rfl ?_
              obtain ⟨r14, hr14, hF⟩ := Option.bind_eq_some_iff.mp hF
              refine g_callN (np := 94) (Wd' := (wdX5_marry cI cZ q0 q1 q2 q3 q4 q5 d6 d7 d8 d9 d10 d11 d12 d13 v_wreck v_piece r14 v_year)) (As := [.ref q5, .int x2, .int x1]) h (mX8_put l D cI cZ q5 8 r13 x2 x1 r14 hr14) gcX5_marry_X8_put rfl ⟨rfl, rfl⟩ (List.mem_of_getElem? (i := 18) rfl) (imX5_marry_own _ (List.mem_of_getElem? (i := 3) rfl)) (imX5_marry_own _ (List.mem_of_getElem? (i := 2) rfl)) hyX8_put rfl rfl rfl rfl ⟨Nat.zero_le _, Nat.zero_le _⟩ [5] [0, 1, 2, 3, 4] (N := 6) (by decide +kernel) rfl rfl rfl rfl rfl dX5_marry_91 rfl ?_
              refine g_iconst (np := 95) (v := (0 : Int32)) h (by decide) dX5_marry_94 rfl ?_
              exact hend _ hF _ _ dX5_marry_95
            · refine g_iconst (np := 69) (v := (5 : Int32)) h (by decide) dX5_marry_68 rfl ?_
              exact hend _ hF _ _ dX5_marry_69
          · refine g_iconst (np := 54) (v := (4 : Int32)) h (by decide) dX5_marry_53 rfl ?_
            exact hend _ hF _ _ dX5_marry_54
      · refine g_iconst (np := 30) (v := (3 : Int32)) h (by decide) dX5_marry_29 rfl ?_
        exact hend _ hF _ _ dX5_marry_30
    · refine g_iconst (np := 23) (v := (2 : Int32)) h (by decide) dX5_marry_22 rfl ?_
      exact hend _ hF _ _ dX5_marry_23
theorem dX5_part_0 : decode cX5_part 0 = .ok (.aload_n 0, 1) := by decide +kernel
theorem dX5_part_1 : decode cX5_part 1 = .ok (.getfield 21, 3) := by decide +kernel
theorem dX5_part_4 : decode cX5_part 4 = .ok (.iload_n 1, 1) := by decide +kernel
theorem dX5_part_5 : decode cX5_part 5 = .ok (.invokevirtual 65, 3) := by decide +kernel
theorem dX5_part_8 : decode cX5_part 8 = .ok (.ifCond .ne 5, 3) := by decide +kernel
theorem dX5_part_11 : decode cX5_part 11 = .ok (.iconst 4, 1) := by decide +kernel
theorem dX5_part_12 : decode cX5_part 12 = .ok (.ireturn, 1) := by decide +kernel
theorem dX5_part_13 : decode cX5_part 13 = .ok (.aload_n 0, 1) := by decide +kernel
theorem dX5_part_14 : decode cX5_part 14 = .ok (.getfield 21, 3) := by decide +kernel
theorem dX5_part_17 : decode cX5_part 17 = .ok (.getfield 72, 3) := by decide +kernel
theorem dX5_part_20 : decode cX5_part 20 = .ok (.aload_n 0, 1) := by decide +kernel
theorem dX5_part_21 : decode cX5_part 21 = .ok (.getfield 21, 3) := by decide +kernel
theorem dX5_part_24 : decode cX5_part 24 = .ok (.getfield 72, 3) := by decide +kernel
theorem dX5_part_27 : decode cX5_part 27 = .ok (.iload_n 1, 1) := by decide +kernel
theorem dX5_part_28 : decode cX5_part 28 = .ok (.invokestatic 50, 3) := by decide +kernel
theorem dX5_part_31 : decode cX5_part 31 = .ok (.bipush (-6), 2) := by decide +kernel
theorem dX5_part_33 : decode cX5_part 33 = .ok (.invokestatic 54, 3) := by decide +kernel
theorem dX5_part_36 : decode cX5_part 36 = .ok (.aload_n 0, 1) := by decide +kernel
theorem dX5_part_37 : decode cX5_part 37 = .ok (.getfield 21, 3) := by decide +kernel
theorem dX5_part_40 : decode cX5_part 40 = .ok (.getfield 72, 3) := by decide +kernel
theorem dX5_part_43 : decode cX5_part 43 = .ok (.iload_n 1, 1) := by decide +kernel
theorem dX5_part_44 : decode cX5_part 44 = .ok (.bipush (-6), 2) := by decide +kernel
theorem dX5_part_46 : decode cX5_part 46 = .ok (.invokestatic 54, 3) := by decide +kernel
theorem dX5_part_49 : decode cX5_part 49 = .ok (.iconst 0, 1) := by decide +kernel
theorem dX5_part_50 : decode cX5_part 50 = .ok (.ireturn, 1) := by decide +kernel
def wtX5_part : List Cond := .code yX5_part cX5_part 2 (some .int) :: (([.fieldLink RX5 21 "DriftKin$Shore" "houses" "LDriftKin$Houses;", .fieldLink RX5 72 "DriftKin$Houses" "partner" "[I", .static yX8_at, .initialized RX8, .static yX8_put]) ++ ((u_ws RX0 TX0 3) ++ ((u_ws RX5 TX5 4) ++ ((wsV RX5 65 RX0 yX0_isWed wtX0_isWed) ++ ((wtX8_at) ++ ((wtX8_put) ++ []))))))
theorem imX5_part_own : ∀ w ∈ ([.fieldLink RX5 21 "DriftKin$Shore" "houses" "LDriftKin$Houses;", .fieldLink RX5 72 "DriftKin$Houses" "partner" "[I", .static yX8_at, .initialized RX8, .static yX8_put] : List Cond), w ∈ wtX5_part := fun w h => List.mem_cons_of_mem _ (inl h)
theorem imX5_part_u_X0 : ∀ w ∈ (u_ws RX0 TX0 3 : List Cond), w ∈ wtX5_part := fun w h => List.mem_cons_of_mem _ (inr (inl h))
theorem imX5_part_u_X5 : ∀ w ∈ (u_ws RX5 TX5 4 : List Cond), w ∈ wtX5_part := fun w h => List.mem_cons_of_mem _ (inr (inr (inl h)))
theorem imX5_part_c_X0_isWed : ∀ w ∈ (wsV RX5 65 RX0 yX0_isWed wtX0_isWed : List Cond), w ∈ wtX5_part := fun w h => List.mem_cons_of_mem _ (inr (inr (inr (inl h))))
theorem imX5_part_c_X8_at : ∀ w ∈ (wtX8_at : List Cond), w ∈ wtX5_part := fun w h => List.mem_cons_of_mem _ (inr (inr (inr (inr (inl h)))))
theorem imX5_part_c_X8_put : ∀ w ∈ (wtX8_put : List Cond), w ∈ wtX5_part := fun w h => List.mem_cons_of_mem _ (inr (inr (inr (inr (inr (inl h))))))
theorem gdX5_part : ∀ w ∈ wtX5_part, Gd w := gdc rfl (gda (gdl (by decide +kernel)) (gda (gdu _ _ _) (gda (gdu _ _ _) (gda (gda (gdl (by decide +kernel)) gdX0_isWed) (gda gdX8_at (gda gdX8_put gdn))))))
theorem gcX5_part_X0_isWed : GoodIn wtX5_part (wsV RX5 65 RX0 yX0_isWed wtX0_isWed) := fun w h => ⟨imX5_part_c_X0_isWed w h, (gda (gdl (by decide +kernel)) gdX0_isWed) w h⟩
theorem gcX5_part_X8_at : GoodIn wtX5_part (wtX8_at) := fun w h => ⟨imX5_part_c_X8_at w h, gdX8_at w h⟩
theorem gcX5_part_X8_put : GoodIn wtX5_part (wtX8_put) := fun w h => ⟨imX5_part_c_X8_put w h, gdX8_put w h⟩
def fX5_part (v_partner : Nat → Int32) (x1 : Int32) : Option (Int32 × (Nat → Int32)) :=
  (fX0_isWed v_partner x1).bind (fun r1 =>
    if r1 = (0 : Int32) then
      some ((4 : Int32), v_partner)
    else
      (fX8_at 8 v_partner x1).bind (fun r3 =>
        (fX8_put 8 v_partner r3 (-6 : Int32)).bind (fun r4 =>
          (fX8_put 8 r4 x1 (-6 : Int32)).bind (fun r5 =>
            some ((0 : Int32), r5)))))
def wdX5_part (cI cZ : ClassId) (q0 : Nat) (q1 : Nat) (q2 : Nat) (d3 : Nat) (d4 : Nat) (d5 : Nat) (d6 : Nat)  (v_partner : Nat → Int32) (v_year : Int32) : va_W := [(q0, .inr (5, [.ref d3, .ref q1, .ref d4, .int v_year])), (q1, .inr (0, [.ref d5, .ref q2, .ref d6])), (q2, .inl (cI, 8, .inl v_partner))]
abbrev rmX5_part : Jvm.Room := { frames := 2, cells := 0, slots := 0, locals := 42 }
theorem hyX5_part : yX5_part.cls ≠ "java/lang/invoke/MethodHandle" ∧ yX5_part.cls ≠ "java/lang/invoke/VarHandle" ∧ (parseMethodDescriptor yX5_part.desc).map (fun d => d.parameters.length) = some 1 := by decide +kernel
set_option maxHeartbeats 4000000 in
set_option maxRecDepth 100000 in
theorem mX5_part (l : Launch) (D : va_G) (cI cZ : ClassId) (q0 : Nat) (q1 : Nat) (q2 : Nat) (d3 : Nat) (d4 : Nat) (d5 : Nat) (d6 : Nat) (v_partner : Nat → Int32) (v_year : Int32) (x1 : Int32) (z : Int32 × (Nat → Int32)) (hF : fX5_part v_partner x1 = some z) : mp l yX5_part wtX5_part rmX5_part D cI cZ [.ref q0, .int x1] (wdX5_part cI cZ q0 q1 q2 d3 d4 d5 d6 v_partner v_year) (some (.int z.1)) (wdX5_part cI cZ q0 q1 q2 d3 d4 d5 d6 z.2 v_year) := by
  refine mp_i (lv0 := [(0, .ref q0), (1, .int x1)]) cX5_part 2 z.1 (by decide) rfl (Nat.le_of_ble_eq_true rfl) rfl (fun E h hend0 => ?_)
  have hend : ∀ (z' : Int32 × (Nat → Int32)), some z' = some z → ∀ (pc : Nat) (lv : List (Nat × Value)), decode cX5_part pc = .ok (.ireturn, 1) → G l D E 2 0 0 (wdX5_part cI cZ q0 q1 q2 d3 d4 d5 d6 (z'.2) v_year) pc lv [.int z'.1] := fun z' e => by cases e; exact hend0
  clear hend0
  unfold fX5_part at hF
  refine g_aload_n (np := 1) h 0 rfl rfl dX5_part_0 rfl ?_
  refine g_get (np := 4) (T := TX5) h imX5_part_u_X5 0 5 rfl rfl 1 (by decide) (imX5_part_own _ (List.mem_of_getElem? (i := 0) rfl)) rfl dX5_part_1 rfl ?_
  refine g_iload_n (np := 5) h 1 rfl rfl dX5_part_4 rfl ?_
  obtain ⟨r1, hr1, hF⟩ := Option.bind_eq_some_iff.mp hF
  refine g_callV (np := 8) (Wd' := (wdX5_part cI cZ q0 q1 q2 d3 d4 d5 d6 v_partner v_year)) (As := [.int x1]) h (mX0_isWed l D cI cZ q1 q2 d5 d6 v_partner x1 r1 hr1) gcX5_part_X0_isWed rfl ⟨rfl, rfl⟩ ⟨rfl, hyX0_isWed⟩ rfl 0 1 rfl rfl rfl rfl rfl rfl ⟨Nat.zero_le _, Nat.zero_le _⟩ [1, 2] [0] (N := 3) (by decide +kernel) rfl rfl rfl rfl rfl dX5_part_5 rfl ?_
  refine g_if_ne h hF dX5_part_8 (np := 11) rfl (tg := 13) rfl (fun c2 hF => ?_) (fun c2 hF => ?_)
  · refine g_aload_n (np := 14) h 0 rfl rfl dX5_part_13 rfl ?_
    refine g_get (np := 17) (T := TX5) h imX5_part_u_X5 0 5 rfl rfl 1 (by decide) (imX5_part_own _ (List.mem_of_getElem? (i := 0) rfl)) rfl dX5_part_14 rfl ?_
    refine g_get (np := 20) (T := TX0) h imX5_part_u_X0 1 0 rfl rfl 1 (by decide) (imX5_part_own _ (List.mem_of_getElem? (i := 1) rfl)) rfl dX5_part_17 rfl ?_
    refine g_aload_n (np := 21) h 0 rfl rfl dX5_part_20 rfl ?_
    refine g_get (np := 24) (T := TX5) h imX5_part_u_X5 0 5 rfl rfl 1 (by decide) (imX5_part_own _ (List.mem_of_getElem? (i := 0) rfl)) rfl dX5_part_21 rfl ?_
    refine g_get (np := 27) (T := TX0) h imX5_part_u_X0 1 0 rfl rfl 1 (by decide) (imX5_part_own _ (List.mem_of_getElem? (i := 1) rfl)) rfl dX5_part_24 rfl ?_
    refine g_iload_n (np := 28) h 1 rfl rfl dX5_part_27 rfl ?_
    obtain ⟨r3, hr3, hF⟩ := Option.bind_eq_some_iff.mp hF
    refine g_callN (np := 31) (Wd' := (wdX5_part cI cZ q0 q1 q2 d3 d4 d5 d6 v_partner v_year)) (As := [.ref q2, .int x1]) h (mX8_at l D cI cZ q2 8 v_partner x1 r3 hr3) gcX5_part_X8_at rfl ⟨rfl, rfl⟩ (List.mem_of_getElem? (i := 16) rfl) (imX5_part_own _ (List.mem_of_getElem? (i := 3) rfl)) (imX5_part_own _ (List.mem_of_getElem? (i := 2) rfl)) hyX8_at rfl rfl rfl rfl ⟨Nat.zero_le _, Nat.zero_le _⟩ [2] [0, 1] (N := 3) (by decide +kernel) rfl rfl rfl rfl rfl dX5_part_28 rfl ?_
    refine g_bipush (np := 33) (v := (-6 : Int32)) h (by decide) dX5_part_31 rfl ?_
    obtain ⟨r4, hr4, hF⟩ := Option.bind_eq_some_iff.mp hF
    refine g_callN (np := 36) (Wd' := (wdX5_part cI cZ q0 q1 q2 d3 d4 d5 d6 r4 v_year)) (As := [.ref q2, .int r3, .int (-6 : Int32)]) h (mX8_put l D cI cZ q2 8 v_partner r3 (-6 : Int32) r4 hr4) gcX5_part_X8_put rfl ⟨rfl, rfl⟩ (List.mem_of_getElem? (i := 18) rfl) (imX5_part_own _ (List.mem_of_getElem? (i := 3) rfl)) (imX5_part_own _ (List.mem_of_getElem? (i := 4) rfl)) hyX8_put rfl rfl rfl rfl ⟨Nat.zero_le _, Nat.zero_le _⟩ [2] [0, 1] (N := 3) (by decide +kernel) rfl rfl rfl rfl rfl dX5_part_33 rfl ?_
    refine g_aload_n (np := 37) h 0 rfl rfl dX5_part_36 rfl ?_
    refine g_get (np := 40) (T := TX5) h imX5_part_u_X5 0 5 rfl rfl 1 (by decide) (imX5_part_own _ (List.mem_of_getElem? (i := 0) rfl)) rfl dX5_part_37 rfl ?_
    refine g_get (np := 43) (T := TX0) h imX5_part_u_X0 1 0 rfl rfl 1 (by decide) (imX5_part_own _ (List.mem_of_getElem? (i := 1) rfl)) rfl dX5_part_40 rfl ?_
    refine g_iload_n (np := 44) h 1 rfl rfl dX5_part_43 rfl ?_
    refine g_bipush (np := 46) (v := (-6 : Int32)) h (by decide) dX5_part_44 rfl ?_
    obtain ⟨r5, hr5, hF⟩ := Option.bind_eq_some_iff.mp hF
    refine g_callN (np := 49) (Wd' := (wdX5_part cI cZ q0 q1 q2 d3 d4 d5 d6 r5 v_year)) (As := [.ref q2, .int x1, .int (-6 : Int32)]) h (mX8_put l D cI cZ q2 8 r4 x1 (-6 : Int32) r5 hr5) gcX5_part_X8_put rfl ⟨rfl, rfl⟩ (List.mem_of_getElem? (i := 18) rfl) (imX5_part_own _ (List.mem_of_getElem? (i := 3) rfl)) (imX5_part_own _ (List.mem_of_getElem? (i := 4) rfl)) hyX8_put rfl rfl rfl rfl ⟨Nat.zero_le _, Nat.zero_le _⟩ [2] [0, 1] (N := 3) (by decide +kernel) rfl rfl rfl rfl rfl dX5_part_46 rfl ?_
    refine g_iconst (np := 50) (v := (0 : Int32)) h (by decide) dX5_part_49 rfl ?_
    exact hend _ hF _ _ dX5_part_50
  · refine g_iconst (np := 12) (v := (4 : Int32)) h (by decide) dX5_part_11 rfl ?_
    exact hend _ hF _ _ dX5_part_12
theorem dX5_burn_0 : decode cX5_burn 0 = .ok (.aload_n 0, 1) := by decide +kernel
theorem dX5_burn_1 : decode cX5_burn 1 = .ok (.getfield 21, 3) := by decide +kernel
theorem dX5_burn_4 : decode cX5_burn 4 = .ok (.iload_n 1, 1) := by decide +kernel
theorem dX5_burn_5 : decode cX5_burn 5 = .ok (.invokevirtual 58, 3) := by decide +kernel
theorem dX5_burn_8 : decode cX5_burn 8 = .ok (.ifCond .eq 5, 3) := by decide +kernel
theorem dX5_burn_11 : decode cX5_burn 11 = .ok (.iconst 2, 1) := by decide +kernel
theorem dX5_burn_12 : decode cX5_burn 12 = .ok (.ireturn, 1) := by decide +kernel
theorem dX5_burn_13 : decode cX5_burn 13 = .ok (.aload_n 0, 1) := by decide +kernel
theorem dX5_burn_14 : decode cX5_burn 14 = .ok (.getfield 12, 3) := by decide +kernel
theorem dX5_burn_17 : decode cX5_burn 17 = .ok (.getfield 46, 3) := by decide +kernel
theorem dX5_burn_20 : decode cX5_burn 20 = .ok (.aload_n 0, 1) := by decide +kernel
theorem dX5_burn_21 : decode cX5_burn 21 = .ok (.getfield 21, 3) := by decide +kernel
theorem dX5_burn_24 : decode cX5_burn 24 = .ok (.getfield 62, 3) := by decide +kernel
theorem dX5_burn_27 : decode cX5_burn 27 = .ok (.iload_n 1, 1) := by decide +kernel
theorem dX5_burn_28 : decode cX5_burn 28 = .ok (.invokestatic 50, 3) := by decide +kernel
theorem dX5_burn_31 : decode cX5_burn 31 = .ok (.iconst 3, 1) := by decide +kernel
theorem dX5_burn_32 : decode cX5_burn 32 = .ok (.invokestatic 54, 3) := by decide +kernel
theorem dX5_burn_35 : decode cX5_burn 35 = .ok (.aload_n 0, 1) := by decide +kernel
theorem dX5_burn_36 : decode cX5_burn 36 = .ok (.getfield 21, 3) := by decide +kernel
theorem dX5_burn_39 : decode cX5_burn 39 = .ok (.getfield 62, 3) := by decide +kernel
theorem dX5_burn_42 : decode cX5_burn 42 = .ok (.iload_n 1, 1) := by decide +kernel
theorem dX5_burn_43 : decode cX5_burn 43 = .ok (.bipush (-6), 2) := by decide +kernel
theorem dX5_burn_45 : decode cX5_burn 45 = .ok (.invokestatic 54, 3) := by decide +kernel
theorem dX5_burn_48 : decode cX5_burn 48 = .ok (.iconst 0, 1) := by decide +kernel
theorem dX5_burn_49 : decode cX5_burn 49 = .ok (.ireturn, 1) := by decide +kernel
def wtX5_burn : List Cond := .code yX5_burn cX5_burn 2 (some .int) :: (([.fieldLink RX5 21 "DriftKin$Shore" "houses" "LDriftKin$Houses;", .fieldLink RX5 12 "DriftKin$Shore" "pieces" "LDriftKin$Pieces;", .fieldLink RX5 46 "DriftKin$Pieces" "place" "[I", .fieldLink RX5 62 "DriftKin$Houses" "piece" "[I", .static yX8_at, .initialized RX8, .static yX8_put]) ++ ((u_ws RX0 TX0 3) ++ ((u_ws RX3 TX3 7) ++ ((u_ws RX5 TX5 4) ++ ((wsV RX5 58 RX0 yX0_isOfNone wtX0_isOfNone) ++ ((wtX8_at) ++ ((wtX8_put) ++ [])))))))
theorem imX5_burn_own : ∀ w ∈ ([.fieldLink RX5 21 "DriftKin$Shore" "houses" "LDriftKin$Houses;", .fieldLink RX5 12 "DriftKin$Shore" "pieces" "LDriftKin$Pieces;", .fieldLink RX5 46 "DriftKin$Pieces" "place" "[I", .fieldLink RX5 62 "DriftKin$Houses" "piece" "[I", .static yX8_at, .initialized RX8, .static yX8_put] : List Cond), w ∈ wtX5_burn := fun w h => List.mem_cons_of_mem _ (inl h)
theorem imX5_burn_u_X0 : ∀ w ∈ (u_ws RX0 TX0 3 : List Cond), w ∈ wtX5_burn := fun w h => List.mem_cons_of_mem _ (inr (inl h))
theorem imX5_burn_u_X3 : ∀ w ∈ (u_ws RX3 TX3 7 : List Cond), w ∈ wtX5_burn := fun w h => List.mem_cons_of_mem _ (inr (inr (inl h)))
theorem imX5_burn_u_X5 : ∀ w ∈ (u_ws RX5 TX5 4 : List Cond), w ∈ wtX5_burn := fun w h => List.mem_cons_of_mem _ (inr (inr (inr (inl h))))
theorem imX5_burn_c_X0_isOfNone : ∀ w ∈ (wsV RX5 58 RX0 yX0_isOfNone wtX0_isOfNone : List Cond), w ∈ wtX5_burn := fun w h => List.mem_cons_of_mem _ (inr (inr (inr (inr (inl h)))))
theorem imX5_burn_c_X8_at : ∀ w ∈ (wtX8_at : List Cond), w ∈ wtX5_burn := fun w h => List.mem_cons_of_mem _ (inr (inr (inr (inr (inr (inl h))))))
theorem imX5_burn_c_X8_put : ∀ w ∈ (wtX8_put : List Cond), w ∈ wtX5_burn := fun w h => List.mem_cons_of_mem _ (inr (inr (inr (inr (inr (inr (inl h)))))))
theorem gdX5_burn : ∀ w ∈ wtX5_burn, Gd w := gdc rfl (gda (gdl (by decide +kernel)) (gda (gdu _ _ _) (gda (gdu _ _ _) (gda (gdu _ _ _) (gda (gda (gdl (by decide +kernel)) gdX0_isOfNone) (gda gdX8_at (gda gdX8_put gdn)))))))
theorem gcX5_burn_X0_isOfNone : GoodIn wtX5_burn (wsV RX5 58 RX0 yX0_isOfNone wtX0_isOfNone) := fun w h => ⟨imX5_burn_c_X0_isOfNone w h, (gda (gdl (by decide +kernel)) gdX0_isOfNone) w h⟩
theorem gcX5_burn_X8_at : GoodIn wtX5_burn (wtX8_at) := fun w h => ⟨imX5_burn_c_X8_at w h, gdX8_at w h⟩
theorem gcX5_burn_X8_put : GoodIn wtX5_burn (wtX8_put) := fun w h => ⟨imX5_burn_c_X8_put w h, gdX8_put w h⟩
def fX5_burn (v_place : Nat → Int32) (v_piece : Nat → Int32) (x1 : Int32) : Option (Int32 × (Nat → Int32) × (Nat → Int32)) :=
  (fX0_isOfNone v_piece x1).bind (fun r1 =>
    if r1 = (0 : Int32) then
      (fX8_at 8 v_piece x1).bind (fun r3 =>
        (fX8_put 10 v_place r3 (3 : Int32)).bind (fun r4 =>
          (fX8_put 8 v_piece x1 (-6 : Int32)).bind (fun r5 =>
            some ((0 : Int32), r4, r5))))
    else
      some ((2 : Int32), v_place, v_piece))
def wdX5_burn (cI cZ : ClassId) (q0 : Nat) (q1 : Nat) (q2 : Nat) (q3 : Nat) (q4 : Nat) (d5 : Nat) (d6 : Nat) (d7 : Nat) (d8 : Nat) (d9 : Nat) (d10 : Nat) (d11 : Nat) (d12 : Nat) (d13 : Nat)  (v_place : Nat → Int32) (v_piece : Nat → Int32) (v_year : Int32) : va_W := [(q0, .inr (5, [.ref q1, .ref q3, .ref d5, .int v_year])), (q1, .inr (3, [.ref d6, .ref d7, .ref d8, .ref d9, .ref d10, .ref q2, .ref d11])), (q2, .inl (cI, 10, .inl v_place)), (q3, .inr (0, [.ref q4, .ref d12, .ref d13])), (q4, .inl (cI, 8, .inl v_piece))]
abbrev rmX5_burn : Jvm.Room := { frames := 2, cells := 0, slots := 0, locals := 42 }
theorem hyX5_burn : yX5_burn.cls ≠ "java/lang/invoke/MethodHandle" ∧ yX5_burn.cls ≠ "java/lang/invoke/VarHandle" ∧ (parseMethodDescriptor yX5_burn.desc).map (fun d => d.parameters.length) = some 1 := by decide +kernel
set_option maxHeartbeats 4000000 in
set_option maxRecDepth 100000 in
theorem mX5_burn (l : Launch) (D : va_G) (cI cZ : ClassId) (q0 : Nat) (q1 : Nat) (q2 : Nat) (q3 : Nat) (q4 : Nat) (d5 : Nat) (d6 : Nat) (d7 : Nat) (d8 : Nat) (d9 : Nat) (d10 : Nat) (d11 : Nat) (d12 : Nat) (d13 : Nat) (v_place : Nat → Int32) (v_piece : Nat → Int32) (v_year : Int32) (x1 : Int32) (z : Int32 × (Nat → Int32) × (Nat → Int32)) (hF : fX5_burn v_place v_piece x1 = some z) : mp l yX5_burn wtX5_burn rmX5_burn D cI cZ [.ref q0, .int x1] (wdX5_burn cI cZ q0 q1 q2 q3 q4 d5 d6 d7 d8 d9 d10 d11 d12 d13 v_place v_piece v_year) (some (.int z.1)) (wdX5_burn cI cZ q0 q1 q2 q3 q4 d5 d6 d7 d8 d9 d10 d11 d12 d13 z.2.1 z.2.2 v_year) := by
  refine mp_i (lv0 := [(0, .ref q0), (1, .int x1)]) cX5_burn 2 z.1 (by decide) rfl (Nat.le_of_ble_eq_true rfl) rfl (fun E h hend0 => ?_)
  have hend : ∀ (z' : Int32 × (Nat → Int32) × (Nat → Int32)), some z' = some z → ∀ (pc : Nat) (lv : List (Nat × Value)), decode cX5_burn pc = .ok (.ireturn, 1) → G l D E 2 0 0 (wdX5_burn cI cZ q0 q1 q2 q3 q4 d5 d6 d7 d8 d9 d10 d11 d12 d13 (z'.2.1) (z'.2.2) v_year) pc lv [.int z'.1] := fun z' e => by cases e; exact hend0
  clear hend0
  unfold fX5_burn at hF
  refine g_aload_n (np := 1) h 0 rfl rfl dX5_burn_0 rfl ?_
  refine g_get (np := 4) (T := TX5) h imX5_burn_u_X5 0 5 rfl rfl 1 (by decide) (imX5_burn_own _ (List.mem_of_getElem? (i := 0) rfl)) rfl dX5_burn_1 rfl ?_
  refine g_iload_n (np := 5) h 1 rfl rfl dX5_burn_4 rfl ?_
  obtain ⟨r1, hr1, hF⟩ := Option.bind_eq_some_iff.mp hF
  refine g_callV (np := 8) (Wd' := (wdX5_burn cI cZ q0 q1 q2 q3 q4 d5 d6 d7 d8 d9 d10 d11 d12 d13 v_place v_piece v_year)) (As := [.int x1]) h (mX0_isOfNone l D cI cZ q3 q4 d12 d13 v_piece x1 r1 hr1) gcX5_burn_X0_isOfNone rfl ⟨rfl, rfl⟩ ⟨rfl, hyX0_isOfNone⟩ rfl 0 3 rfl rfl rfl rfl rfl rfl ⟨Nat.zero_le _, Nat.zero_le _⟩ [3, 4] [0, 1, 2] (N := 5) (by decide +kernel) rfl rfl rfl rfl rfl dX5_burn_5 rfl ?_
  refine g_if_eq h hF dX5_burn_8 (np := 11) rfl (tg := 13) rfl (fun c2 hF => ?_) (fun c2 hF => ?_)
  · refine g_aload_n (np := 14) h 0 rfl rfl dX5_burn_13 rfl ?_
    refine g_get (np := 17) (T := TX5) h imX5_burn_u_X5 0 5 rfl rfl 0 (by decide) (imX5_burn_own _ (List.mem_of_getElem? (i := 1) rfl)) rfl dX5_burn_14 rfl ?_
    refine g_get (np := 20) (T := TX3) h imX5_burn_u_X3 1 3 rfl rfl 5 (by decide) (imX5_burn_own _ (List.mem_of_getElem? (i := 2) rfl)) rfl dX5_burn_17 rfl ?_
    refine g_aload_n (np := 21) h 0 rfl rfl dX5_burn_20 rfl ?_
    refine g_get (np := 24) (T := TX5) h imX5_burn_u_X5 0 5 rfl rfl 1 (by decide) (imX5_burn_own _ (List.mem_of_getElem? (i := 0) rfl)) rfl dX5_burn_21 rfl ?_
    refine g_get (np := 27) (T := TX0) h imX5_burn_u_X0 3 0 rfl rfl 0 (by decide) (imX5_burn_own _ (List.mem_of_getElem? (i := 3) rfl)) rfl dX5_burn_24 rfl ?_
    refine g_iload_n (np := 28) h 1 rfl rfl dX5_burn_27 rfl ?_
    obtain ⟨r3, hr3, hF⟩ := Option.bind_eq_some_iff.mp hF
    refine g_callN (np := 31) (Wd' := (wdX5_burn cI cZ q0 q1 q2 q3 q4 d5 d6 d7 d8 d9 d10 d11 d12 d13 v_place v_piece v_year)) (As := [.ref q4, .int x1]) h (mX8_at l D cI cZ q4 8 v_piece x1 r3 hr3) gcX5_burn_X8_at rfl ⟨rfl, rfl⟩ (List.mem_of_getElem? (i := 16) rfl) (imX5_burn_own _ (List.mem_of_getElem? (i := 5) rfl)) (imX5_burn_own _ (List.mem_of_getElem? (i := 4) rfl)) hyX8_at rfl rfl rfl rfl ⟨Nat.zero_le _, Nat.zero_le _⟩ [4] [0, 1, 2, 3] (N := 5) (by decide +kernel) rfl rfl rfl rfl rfl dX5_burn_28 rfl ?_
    refine g_iconst (np := 32) (v := (3 : Int32)) h (by decide) dX5_burn_31 rfl ?_
    obtain ⟨r4, hr4, hF⟩ := Option.bind_eq_some_iff.mp hF
    refine g_callN (np := 35) (Wd' := (wdX5_burn cI cZ q0 q1 q2 q3 q4 d5 d6 d7 d8 d9 d10 d11 d12 d13 r4 v_piece v_year)) (As := [.ref q2, .int r3, .int (3 : Int32)]) h (mX8_put l D cI cZ q2 10 v_place r3 (3 : Int32) r4 hr4) gcX5_burn_X8_put rfl ⟨rfl, rfl⟩ (List.mem_of_getElem? (i := 18) rfl) (imX5_burn_own _ (List.mem_of_getElem? (i := 5) rfl)) (imX5_burn_own _ (List.mem_of_getElem? (i := 6) rfl)) hyX8_put rfl rfl rfl rfl ⟨Nat.zero_le _, Nat.zero_le _⟩ [2] [0, 1, 3, 4] (N := 5) (by decide +kernel) rfl rfl rfl rfl rfl dX5_burn_32 rfl ?_
    refine g_aload_n (np := 36) h 0 rfl rfl dX5_burn_35 rfl ?_
    refine g_get (np := 39) (T := TX5) h imX5_burn_u_X5 0 5 rfl rfl 1 (by decide) (imX5_burn_own _ (List.mem_of_getElem? (i := 0) rfl)) rfl dX5_burn_36 rfl ?_
    refine g_get (np := 42) (T := TX0) h imX5_burn_u_X0 3 0 rfl rfl 0 (by decide) (imX5_burn_own _ (List.mem_of_getElem? (i := 3) rfl)) rfl dX5_burn_39 rfl ?_
    refine g_iload_n (np := 43) h 1 rfl rfl dX5_burn_42 rfl ?_
    refine g_bipush (np := 45) (v := (-6 : Int32)) h (by decide) dX5_burn_43 rfl ?_
    obtain ⟨r5, hr5, hF⟩ := Option.bind_eq_some_iff.mp hF
    refine g_callN (np := 48) (Wd' := (wdX5_burn cI cZ q0 q1 q2 q3 q4 d5 d6 d7 d8 d9 d10 d11 d12 d13 r4 r5 v_year)) (As := [.ref q4, .int x1, .int (-6 : Int32)]) h (mX8_put l D cI cZ q4 8 v_piece x1 (-6 : Int32) r5 hr5) gcX5_burn_X8_put rfl ⟨rfl, rfl⟩ (List.mem_of_getElem? (i := 18) rfl) (imX5_burn_own _ (List.mem_of_getElem? (i := 5) rfl)) (imX5_burn_own _ (List.mem_of_getElem? (i := 6) rfl)) hyX8_put rfl rfl rfl rfl ⟨Nat.zero_le _, Nat.zero_le _⟩ [4] [0, 1, 2, 3] (N := 5) (by decide +kernel) rfl rfl rfl rfl rfl dX5_burn_45 rfl ?_
    refine g_iconst (np := 49) (v := (0 : Int32)) h (by decide) dX5_burn_48 rfl ?_
    exact hend _ hF _ _ dX5_burn_49
  · refine g_iconst (np := 12) (v := (2 : Int32)) h (by decide) dX5_burn_11 rfl ?_
    exact hend _ hF _ _ dX5_burn_12
theorem dX5_passYear_0 : decode cX5_passYear 0 = .ok (.aload_n 0, 1) := by decide +kernel
theorem dX5_passYear_1 : decode cX5_passYear 1 = .ok (.getfield 32, 3) := by decide +kernel
theorem dX5_passYear_4 : decode cX5_passYear 4 = .ok (.bipush 99, 2) := by decide +kernel
theorem dX5_passYear_6 : decode cX5_passYear 6 = .ok (.if_icmp .lt 6, 3) := by decide +kernel
theorem dX5_passYear_9 : decode cX5_passYear 9 = .ok (.bipush 6, 2) := by decide +kernel
theorem dX5_passYear_11 : decode cX5_passYear 11 = .ok (.ireturn, 1) := by decide +kernel
theorem dX5_passYear_12 : decode cX5_passYear 12 = .ok (.aload_n 0, 1) := by decide +kernel
theorem dX5_passYear_13 : decode cX5_passYear 13 = .ok (.dup, 1) := by decide +kernel
theorem dX5_passYear_14 : decode cX5_passYear 14 = .ok (.getfield 32, 3) := by decide +kernel
theorem dX5_passYear_17 : decode cX5_passYear 17 = .ok (.iconst 1, 1) := by decide +kernel
theorem dX5_passYear_18 : decode cX5_passYear 18 = .ok (.iadd, 1) := by decide +kernel
theorem dX5_passYear_19 : decode cX5_passYear 19 = .ok (.putfield 32, 3) := by decide +kernel
theorem dX5_passYear_22 : decode cX5_passYear 22 = .ok (.iconst 0, 1) := by decide +kernel
theorem dX5_passYear_23 : decode cX5_passYear 23 = .ok (.istore_n 1, 1) := by decide +kernel
theorem dX5_passYear_24 : decode cX5_passYear 24 = .ok (.iload_n 1, 1) := by decide +kernel
theorem dX5_passYear_25 : decode cX5_passYear 25 = .ok (.bipush 8, 2) := by decide +kernel
theorem dX5_passYear_27 : decode cX5_passYear 27 = .ok (.if_icmp .ge 52, 3) := by decide +kernel
theorem dX5_passYear_30 : decode cX5_passYear 30 = .ok (.aload_n 0, 1) := by decide +kernel
theorem dX5_passYear_31 : decode cX5_passYear 31 = .ok (.getfield 21, 3) := by decide +kernel
theorem dX5_passYear_34 : decode cX5_passYear 34 = .ok (.getfield 75, 3) := by decide +kernel
theorem dX5_passYear_37 : decode cX5_passYear 37 = .ok (.iload_n 1, 1) := by decide +kernel
theorem dX5_passYear_38 : decode cX5_passYear 38 = .ok (.invokestatic 50, 3) := by decide +kernel
theorem dX5_passYear_41 : decode cX5_passYear 41 = .ok (.iconst 1, 1) := by decide +kernel
theorem dX5_passYear_42 : decode cX5_passYear 42 = .ok (.iadd, 1) := by decide +kernel
theorem dX5_passYear_43 : decode cX5_passYear 43 = .ok (.istore_n 2, 1) := by decide +kernel
theorem dX5_passYear_44 : decode cX5_passYear 44 = .ok (.aload_n 0, 1) := by decide +kernel
theorem dX5_passYear_45 : decode cX5_passYear 45 = .ok (.getfield 21, 3) := by decide +kernel
theorem dX5_passYear_48 : decode cX5_passYear 48 = .ok (.iload_n 1, 1) := by decide +kernel
theorem dX5_passYear_49 : decode cX5_passYear 49 = .ok (.invokevirtual 65, 3) := by decide +kernel
theorem dX5_passYear_52 : decode cX5_passYear 52 = .ok (.ifCond .eq 21, 3) := by decide +kernel
theorem dX5_passYear_55 : decode cX5_passYear 55 = .ok (.iload_n 2, 1) := by decide +kernel
theorem dX5_passYear_56 : decode cX5_passYear 56 = .ok (.bipush 99, 2) := by decide +kernel
theorem dX5_passYear_58 : decode cX5_passYear 58 = .ok (.if_icmp .gt 15, 3) := by decide +kernel
theorem dX5_passYear_61 : decode cX5_passYear 61 = .ok (.aload_n 0, 1) := by decide +kernel
theorem dX5_passYear_62 : decode cX5_passYear 62 = .ok (.getfield 21, 3) := by decide +kernel
theorem dX5_passYear_65 : decode cX5_passYear 65 = .ok (.getfield 75, 3) := by decide +kernel
theorem dX5_passYear_68 : decode cX5_passYear 68 = .ok (.iload_n 1, 1) := by decide +kernel
theorem dX5_passYear_69 : decode cX5_passYear 69 = .ok (.iload_n 2, 1) := by decide +kernel
theorem dX5_passYear_70 : decode cX5_passYear 70 = .ok (.invokestatic 54, 3) := by decide +kernel
theorem dX5_passYear_73 : decode cX5_passYear 73 = .ok (.iinc 1 1, 3) := by decide +kernel
theorem dX5_passYear_76 : decode cX5_passYear 76 = .ok (.goto (-52), 3) := by decide +kernel
theorem dX5_passYear_79 : decode cX5_passYear 79 = .ok (.iconst 0, 1) := by decide +kernel
theorem dX5_passYear_80 : decode cX5_passYear 80 = .ok (.ireturn, 1) := by decide +kernel
def wtX5_passYear : List Cond := .code yX5_passYear cX5_passYear 3 (some .int) :: (([.fieldLink RX5 32 "DriftKin$Shore" "year" "I", .fieldLink RX5 21 "DriftKin$Shore" "houses" "LDriftKin$Houses;", .fieldLink RX5 75 "DriftKin$Houses" "children" "[I", .static yX8_at, .initialized RX8, .static yX8_put]) ++ ((u_ws RX0 TX0 3) ++ ((u_ws RX5 TX5 4) ++ ((wtX8_at) ++ ((wsV RX5 65 RX0 yX0_isWed wtX0_isWed) ++ ((wtX8_put) ++ []))))))
theorem imX5_passYear_own : ∀ w ∈ ([.fieldLink RX5 32 "DriftKin$Shore" "year" "I", .fieldLink RX5 21 "DriftKin$Shore" "houses" "LDriftKin$Houses;", .fieldLink RX5 75 "DriftKin$Houses" "children" "[I", .static yX8_at, .initialized RX8, .static yX8_put] : List Cond), w ∈ wtX5_passYear := fun w h => List.mem_cons_of_mem _ (inl h)
theorem imX5_passYear_u_X0 : ∀ w ∈ (u_ws RX0 TX0 3 : List Cond), w ∈ wtX5_passYear := fun w h => List.mem_cons_of_mem _ (inr (inl h))
theorem imX5_passYear_u_X5 : ∀ w ∈ (u_ws RX5 TX5 4 : List Cond), w ∈ wtX5_passYear := fun w h => List.mem_cons_of_mem _ (inr (inr (inl h)))
theorem imX5_passYear_c_X8_at : ∀ w ∈ (wtX8_at : List Cond), w ∈ wtX5_passYear := fun w h => List.mem_cons_of_mem _ (inr (inr (inr (inl h))))
theorem imX5_passYear_c_X0_isWed : ∀ w ∈ (wsV RX5 65 RX0 yX0_isWed wtX0_isWed : List Cond), w ∈ wtX5_passYear := fun w h => List.mem_cons_of_mem _ (inr (inr (inr (inr (inl h)))))
theorem imX5_passYear_c_X8_put : ∀ w ∈ (wtX8_put : List Cond), w ∈ wtX5_passYear := fun w h => List.mem_cons_of_mem _ (inr (inr (inr (inr (inr (inl h))))))
theorem gdX5_passYear : ∀ w ∈ wtX5_passYear, Gd w := gdc rfl (gda (gdl (by decide +kernel)) (gda (gdu _ _ _) (gda (gdu _ _ _) (gda gdX8_at (gda (gda (gdl (by decide +kernel)) gdX0_isWed) (gda gdX8_put gdn))))))
theorem gcX5_passYear_X8_at : GoodIn wtX5_passYear (wtX8_at) := fun w h => ⟨imX5_passYear_c_X8_at w h, gdX8_at w h⟩
theorem gcX5_passYear_X0_isWed : GoodIn wtX5_passYear (wsV RX5 65 RX0 yX0_isWed wtX0_isWed) := fun w h => ⟨imX5_passYear_c_X0_isWed w h, (gda (gdl (by decide +kernel)) gdX0_isWed) w h⟩
theorem gcX5_passYear_X8_put : GoodIn wtX5_passYear (wtX8_put) := fun w h => ⟨imX5_passYear_c_X8_put w h, gdX8_put w h⟩
def fX5_passYear_24 (v_year : Int32) (v_partner : Nat → Int32) : Nat → (Nat → Int32) → Int32 → Option (Int32 × Int32 × (Nat → Int32))
  | 0, _, _ => none
  | n + 1, v_children, x1 =>
    if (8 : Int32) ≤ x1 then
      some ((0 : Int32), v_year, v_children)
    else
      (fX8_at 8 v_children x1).bind (fun r1002 =>
        (fX0_isWed v_partner x1).bind (fun r1003 =>
          if r1003 = (0 : Int32) then
            fX5_passYear_24 v_year v_partner n v_children (x1 + (1 : Int32))
          else
            if (99 : Int32) < (r1002 + (1 : Int32)) then
              fX5_passYear_24 v_year v_partner n v_children (x1 + (1 : Int32))
            else
              (fX8_put 8 v_children x1 (r1002 + (1 : Int32))).bind (fun r1006 =>
                fX5_passYear_24 v_year v_partner n r1006 (x1 + (1 : Int32)))))
def fX5_passYear (v_year : Int32) (v_partner : Nat → Int32) (v_children : Nat → Int32) : Option (Int32 × Int32 × (Nat → Int32)) :=
  if v_year < (99 : Int32) then
    fX5_passYear_24 (v_year + (1 : Int32)) v_partner 2000 v_children (0 : Int32)
  else
    some ((6 : Int32), v_year, v_children)
def wdX5_passYear (cI cZ : ClassId) (q0 : Nat) (q1 : Nat) (q2 : Nat) (q3 : Nat) (d4 : Nat) (d5 : Nat) (d6 : Nat)  (v_year : Int32) (v_partner : Nat → Int32) (v_children : Nat → Int32) : va_W := [(q0, .inr (5, [.ref d4, .ref q1, .ref d5, .int v_year])), (q1, .inr (0, [.ref d6, .ref q2, .ref q3])), (q2, .inl (cI, 8, .inl v_partner)), (q3, .inl (cI, 8, .inl v_children))]
abbrev rmX5_passYear : Jvm.Room := { frames := 2, cells := 0, slots := 0, locals := 42 }
theorem hyX5_passYear : yX5_passYear.cls ≠ "java/lang/invoke/MethodHandle" ∧ yX5_passYear.cls ≠ "java/lang/invoke/VarHandle" ∧ (parseMethodDescriptor yX5_passYear.desc).map (fun d => d.parameters.length) = some 0 := by decide +kernel
set_option maxHeartbeats 4000000 in
set_option maxRecDepth 100000 in
theorem mX5_passYear (l : Launch) (D : va_G) (cI cZ : ClassId) (q0 : Nat) (q1 : Nat) (q2 : Nat) (q3 : Nat) (d4 : Nat) (d5 : Nat) (d6 : Nat) (v_year : Int32) (v_partner : Nat → Int32) (v_children : Nat → Int32) (z : Int32 × Int32 × (Nat → Int32)) (hF : fX5_passYear v_year v_partner v_children = some z) : mp l yX5_passYear wtX5_passYear rmX5_passYear D cI cZ [.ref q0] (wdX5_passYear cI cZ q0 q1 q2 q3 d4 d5 d6 v_year v_partner v_children) (some (.int z.1)) (wdX5_passYear cI cZ q0 q1 q2 q3 d4 d5 d6 z.2.1 v_partner z.2.2) := by
  refine mp_i (lv0 := [(0, .ref q0)]) cX5_passYear 3 z.1 (by decide) rfl (Nat.le_of_ble_eq_true rfl) rfl (fun E h hend0 => ?_)
  have hend : ∀ (z' : Int32 × Int32 × (Nat → Int32)), some z' = some z → ∀ (pc : Nat) (lv : List (Nat × Value)), decode cX5_passYear pc = .ok (.ireturn, 1) → G l D E 3 0 0 (wdX5_passYear cI cZ q0 q1 q2 q3 d4 d5 d6 (z'.2.1) v_partner (z'.2.2)) pc lv [.int z'.1] := fun z' e => by cases e; exact hend0
  clear hend0
  have hL24 : ∀ (n24 : Nat) (v_year : Int32) (v_children : Nat → Int32) (x1 : Int32), fX5_passYear_24 v_year v_partner n24 v_children x1 = some z → G l D E 3 0 0 (wdX5_passYear cI cZ q0 q1 q2 q3 d4 d5 d6 v_year v_partner v_children) 24 [(0, .ref q0), (1, .int x1)] [] := by
    intro n24
    induction n24 with
    | zero =>
      intro v_year v_children x1 hF
      rw [fX5_passYear_24] at hF
      cases hF
    | succ n24 ih24 =>
      intro v_year v_children x1 hF
      rw [fX5_passYear_24] at hF
      refine g_iload_n (np := 25) h 1 rfl rfl dX5_passYear_24 rfl ?_
      refine g_bipush (np := 27) (v := (8 : Int32)) h (by decide) dX5_passYear_25 rfl ?_
      refine g_icmp_ge h hF dX5_passYear_27 (np := 30) rfl (tg := 79) rfl (fun c1001 hF => ?_) (fun c1001 hF => ?_)
      · refine g_iconst (np := 80) (v := (0 : Int32)) h (by decide) dX5_passYear_79 rfl ?_
        exact hend _ hF _ _ dX5_passYear_80
      · refine g_aload_n (np := 31) h 0 rfl rfl dX5_passYear_30 rfl ?_
        refine g_get (np := 34) (T := TX5) h imX5_passYear_u_X5 0 5 rfl rfl 1 (by decide) (imX5_passYear_own _ (List.mem_of_getElem? (i := 1) rfl)) rfl dX5_passYear_31 rfl ?_
        refine g_get (np := 37) (T := TX0) h imX5_passYear_u_X0 1 0 rfl rfl 2 (by decide) (imX5_passYear_own _ (List.mem_of_getElem? (i := 2) rfl)) rfl dX5_passYear_34 rfl ?_
        refine g_iload_n (np := 38) h 1 rfl rfl dX5_passYear_37 rfl ?_
        obtain ⟨r1002, hr1002, hF⟩ := Option.bind_eq_some_iff.mp hF
        refine g_callN (np := 41) (Wd' := (wdX5_passYear cI cZ q0 q1 q2 q3 d4 d5 d6 v_year v_partner v_children)) (As := [.ref q3, .int x1]) h (mX8_at l D cI cZ q3 8 v_children x1 r1002 hr1002) gcX5_passYear_X8_at rfl ⟨rfl, rfl⟩ (List.mem_of_getElem? (i := 16) rfl) (imX5_passYear_own _ (List.mem_of_getElem? (i := 4) rfl)) (imX5_passYear_own _ (List.mem_of_getElem? (i := 3) rfl)) hyX8_at rfl rfl rfl rfl ⟨Nat.zero_le _, Nat.zero_le _⟩ [3] [0, 1, 2] (N := 4) (by decide +kernel) rfl rfl rfl rfl rfl dX5_passYear_38 rfl ?_
        refine g_iconst (np := 42) (v := (1 : Int32)) h (by decide) dX5_passYear_41 rfl ?_
        refine g_iadd (np := 43) h dX5_passYear_42 rfl ?_
        refine g_istore_n (np := 44) (lv' := [(2, .int (r1002 + (1 : Int32))), (0, .ref q0), (1, .int x1)]) h rfl (by decide) rfl dX5_passYear_43 rfl ?_
        refine g_aload_n (np := 45) h 1 rfl rfl dX5_passYear_44 rfl ?_
        refine g_get (np := 48) (T := TX5) h imX5_passYear_u_X5 0 5 rfl rfl 1 (by decide) (imX5_passYear_own _ (List.mem_of_getElem? (i := 1) rfl)) rfl dX5_passYear_45 rfl ?_
        refine g_iload_n (np := 49) h 2 rfl rfl dX5_passYear_48 rfl ?_
        obtain ⟨r1003, hr1003, hF⟩ := Option.bind_eq_some_iff.mp hF
        refine g_callV (np := 52) (Wd' := (wdX5_passYear cI cZ q0 q1 q2 q3 d4 d5 d6 v_year v_partner v_children)) (As := [.int x1]) h (mX0_isWed l D cI cZ q1 q2 d6 q3 v_partner x1 r1003 hr1003) gcX5_passYear_X0_isWed rfl ⟨rfl, rfl⟩ ⟨rfl, hyX0_isWed⟩ rfl 0 1 rfl rfl rfl rfl rfl rfl ⟨Nat.zero_le _, Nat.zero_le _⟩ [1, 2] [0, 3] (N := 4) (by decide +kernel) rfl rfl rfl rfl rfl dX5_passYear_49 rfl ?_
        refine g_if_eq h hF dX5_passYear_52 (np := 55) rfl (tg := 73) rfl (fun c1004 hF => ?_) (fun c1004 hF => ?_)
        · refine g_iinc (np := 76) (v := (x1 + (1 : Int32))) (lv' := [(1, .int (x1 + (1 : Int32))), (2, .int (r1002 + (1 : Int32))), (0, .ref q0)]) h 2 rfl rfl (by decide) rfl dX5_passYear_73 rfl ?_
          refine g_goto h dX5_passYear_76 (np := 24) rfl ?_
          refine g_lv [2, 0] rfl ?_
          exact ih24 v_year v_children (x1 + (1 : Int32)) hF
        · refine g_iload_n (np := 56) h 0 rfl rfl dX5_passYear_55 rfl ?_
          refine g_bipush (np := 58) (v := (99 : Int32)) h (by decide) dX5_passYear_56 rfl ?_
          refine g_icmp_gt h hF dX5_passYear_58 (np := 61) rfl (tg := 73) rfl (fun c1005 hF => ?_) (fun c1005 hF => ?_)
          · refine g_iinc (np := 76) (v := (x1 + (1 : Int32))) (lv' := [(1, .int (x1 + (1 : Int32))), (2, .int (r1002 + (1 : Int32))), (0, .ref q0)]) h 2 rfl rfl (by decide) rfl dX5_passYear_73 rfl ?_
            refine g_goto h dX5_passYear_76 (np := 24) rfl ?_
            refine g_lv [2, 0] rfl ?_
            exact ih24 v_year v_children (x1 + (1 : Int32)) hF
          · refine g_aload_n (np := 62) h 1 rfl rfl dX5_passYear_61 rfl ?_
            refine g_get (np := 65) (T := TX5) h imX5_passYear_u_X5 0 5 rfl rfl 1 (by decide) (imX5_passYear_own _ (List.mem_of_getElem? (i := 1) rfl)) rfl dX5_passYear_62 rfl ?_
            refine g_get (np := 68) (T := TX0) h imX5_passYear_u_X0 1 0 rfl rfl 2 (by decide) (imX5_passYear_own _ (List.mem_of_getElem? (i := 2) rfl)) rfl dX5_passYear_65 rfl ?_
            refine g_iload_n (np := 69) h 2 rfl rfl dX5_passYear_68 rfl ?_
            refine g_iload_n (np := 70) h 0 rfl rfl dX5_passYear_69 rfl ?_
            obtain ⟨r1006, hr1006, hF⟩ := Option.bind_eq_some_iff.mp hF
            refine g_callN (np := 73) (Wd' := (wdX5_passYear cI cZ q0 q1 q2 q3 d4 d5 d6 v_year v_partner r1006)) (As := [.ref q3, .int x1, .int (r1002 + (1 : Int32))]) h (mX8_put l D cI cZ q3 8 v_children x1 (r1002 + (1 : Int32)) r1006 hr1006) gcX5_passYear_X8_put rfl ⟨rfl, rfl⟩ (List.mem_of_getElem? (i := 18) rfl) (imX5_passYear_own _ (List.mem_of_getElem? (i := 4) rfl)) (imX5_passYear_own _ (List.mem_of_getElem? (i := 5) rfl)) hyX8_put rfl rfl rfl rfl ⟨Nat.zero_le _, Nat.zero_le _⟩ [3] [0, 1, 2] (N := 4) (by decide +kernel) rfl rfl rfl rfl rfl dX5_passYear_70 rfl ?_
            refine g_iinc (np := 76) (v := (x1 + (1 : Int32))) (lv' := [(1, .int (x1 + (1 : Int32))), (2, .int (r1002 + (1 : Int32))), (0, .ref q0)]) h 2 rfl rfl (by decide) rfl dX5_passYear_73 rfl ?_
            refine g_goto h dX5_passYear_76 (np := 24) rfl ?_
            refine g_lv [2, 0] rfl ?_
            exact ih24 v_year r1006 (x1 + (1 : Int32)) hF
  unfold fX5_passYear at hF
  refine g_aload_n (np := 1) h 0 rfl rfl dX5_passYear_0 rfl ?_
  refine g_get (np := 4) (T := TX5) h imX5_passYear_u_X5 0 5 rfl rfl 3 (by decide) (imX5_passYear_own _ (List.mem_of_getElem? (i := 0) rfl)) rfl dX5_passYear_1 rfl ?_
  refine g_bipush (np := 6) (v := (99 : Int32)) h (by decide) dX5_passYear_4 rfl ?_
  refine g_icmp_lt h hF dX5_passYear_6 (np := 9) rfl (tg := 12) rfl (fun c1 hF => ?_) (fun c1 hF => ?_)
  · refine g_aload_n (np := 13) h 0 rfl rfl dX5_passYear_12 rfl ?_
    refine g_dup (np := 14) h rfl dX5_passYear_13 rfl ?_
    refine g_get (np := 17) (T := TX5) h imX5_passYear_u_X5 0 5 rfl rfl 3 (by decide) (imX5_passYear_own _ (List.mem_of_getElem? (i := 0) rfl)) rfl dX5_passYear_14 rfl ?_
    refine g_iconst (np := 18) (v := (1 : Int32)) h (by decide) dX5_passYear_17 rfl ?_
    refine g_iadd (np := 19) h dX5_passYear_18 rfl ?_
    refine g_put (np := 22) (T := TX5) (Wd' := (wdX5_passYear cI cZ q0 q1 q2 q3 d4 d5 d6 (v_year + (1 : Int32)) v_partner v_children)) h imX5_passYear_u_X5 tyX5_ok nmX5 0 5 rfl rfl 3 (by decide) (imX5_passYear_own _ (List.mem_of_getElem? (i := 0) rfl)) rfl rfl rfl (Nat.le_of_ble_eq_true rfl) rfl dX5_passYear_19 rfl ?_
    refine g_iconst (np := 23) (v := (0 : Int32)) h (by decide) dX5_passYear_22 rfl ?_
    refine g_istore_n (np := 24) (lv' := [(1, .int (0 : Int32)), (0, .ref q0)]) h rfl (by decide) rfl dX5_passYear_23 rfl ?_
    refine g_lv [1, 0] rfl ?_
    exact hL24 _ (v_year + (1 : Int32)) v_children (0 : Int32) hF
  · refine g_bipush (np := 11) (v := (6 : Int32)) h (by decide) dX5_passYear_9 rfl ?_
    exact hend _ hF _ _ dX5_passYear_11
theorem dX5_isFree_0 : decode cX5_isFree 0 = .ok (.aload_n 0, 1) := by decide +kernel
theorem dX5_isFree_1 : decode cX5_isFree 1 = .ok (.getfield 21, 3) := by decide +kernel
theorem dX5_isFree_4 : decode cX5_isFree 4 = .ok (.iload_n 1, 1) := by decide +kernel
theorem dX5_isFree_5 : decode cX5_isFree 5 = .ok (.invokevirtual 58, 3) := by decide +kernel
theorem dX5_isFree_8 : decode cX5_isFree 8 = .ok (.ifCond .ne 18, 3) := by decide +kernel
theorem dX5_isFree_11 : decode cX5_isFree 11 = .ok (.aload_n 0, 1) := by decide +kernel
theorem dX5_isFree_12 : decode cX5_isFree 12 = .ok (.getfield 21, 3) := by decide +kernel
theorem dX5_isFree_15 : decode cX5_isFree 15 = .ok (.iload_n 1, 1) := by decide +kernel
theorem dX5_isFree_16 : decode cX5_isFree 16 = .ok (.invokevirtual 65, 3) := by decide +kernel
theorem dX5_isFree_19 : decode cX5_isFree 19 = .ok (.ifCond .ne 7, 3) := by decide +kernel
theorem dX5_isFree_22 : decode cX5_isFree 22 = .ok (.iconst 1, 1) := by decide +kernel
theorem dX5_isFree_23 : decode cX5_isFree 23 = .ok (.goto 4, 3) := by decide +kernel
theorem dX5_isFree_26 : decode cX5_isFree 26 = .ok (.iconst 0, 1) := by decide +kernel
theorem dX5_isFree_27 : decode cX5_isFree 27 = .ok (.ireturn, 1) := by decide +kernel
def wtX5_isFree : List Cond := .code yX5_isFree cX5_isFree 2 (some .boolean) :: (([.fieldLink RX5 21 "DriftKin$Shore" "houses" "LDriftKin$Houses;"]) ++ ((u_ws RX5 TX5 4) ++ ((wsV RX5 58 RX0 yX0_isOfNone wtX0_isOfNone) ++ ((wsV RX5 65 RX0 yX0_isWed wtX0_isWed) ++ []))))
theorem imX5_isFree_own : ∀ w ∈ ([.fieldLink RX5 21 "DriftKin$Shore" "houses" "LDriftKin$Houses;"] : List Cond), w ∈ wtX5_isFree := fun w h => List.mem_cons_of_mem _ (inl h)
theorem imX5_isFree_u_X5 : ∀ w ∈ (u_ws RX5 TX5 4 : List Cond), w ∈ wtX5_isFree := fun w h => List.mem_cons_of_mem _ (inr (inl h))
theorem imX5_isFree_c_X0_isOfNone : ∀ w ∈ (wsV RX5 58 RX0 yX0_isOfNone wtX0_isOfNone : List Cond), w ∈ wtX5_isFree := fun w h => List.mem_cons_of_mem _ (inr (inr (inl h)))
theorem imX5_isFree_c_X0_isWed : ∀ w ∈ (wsV RX5 65 RX0 yX0_isWed wtX0_isWed : List Cond), w ∈ wtX5_isFree := fun w h => List.mem_cons_of_mem _ (inr (inr (inr (inl h))))
theorem gdX5_isFree : ∀ w ∈ wtX5_isFree, Gd w := gdc rfl (gda (gdl (by decide +kernel)) (gda (gdu _ _ _) (gda (gda (gdl (by decide +kernel)) gdX0_isOfNone) (gda (gda (gdl (by decide +kernel)) gdX0_isWed) gdn))))
theorem gcX5_isFree_X0_isOfNone : GoodIn wtX5_isFree (wsV RX5 58 RX0 yX0_isOfNone wtX0_isOfNone) := fun w h => ⟨imX5_isFree_c_X0_isOfNone w h, (gda (gdl (by decide +kernel)) gdX0_isOfNone) w h⟩
theorem gcX5_isFree_X0_isWed : GoodIn wtX5_isFree (wsV RX5 65 RX0 yX0_isWed wtX0_isWed) := fun w h => ⟨imX5_isFree_c_X0_isWed w h, (gda (gdl (by decide +kernel)) gdX0_isWed) w h⟩
def fX5_isFree (v_piece : Nat → Int32) (v_partner : Nat → Int32) (x1 : Int32) : Option (Int32) :=
  (fX0_isOfNone v_piece x1).bind (fun r1 =>
    if r1 = (0 : Int32) then
      (fX0_isWed v_partner x1).bind (fun r3 =>
        if r3 = (0 : Int32) then
          some (1 : Int32)
        else
          some (0 : Int32))
    else
      some (0 : Int32))
def wdX5_isFree (cI cZ : ClassId) (q0 : Nat) (q1 : Nat) (q2 : Nat) (q3 : Nat) (d4 : Nat) (d5 : Nat) (d6 : Nat)  (v_piece : Nat → Int32) (v_partner : Nat → Int32) (v_year : Int32) : va_W := [(q0, .inr (5, [.ref d4, .ref q1, .ref d5, .int v_year])), (q1, .inr (0, [.ref q2, .ref q3, .ref d6])), (q2, .inl (cI, 8, .inl v_piece)), (q3, .inl (cI, 8, .inl v_partner))]
abbrev rmX5_isFree : Jvm.Room := { frames := 2, cells := 0, slots := 0, locals := 42 }
theorem hyX5_isFree : yX5_isFree.cls ≠ "java/lang/invoke/MethodHandle" ∧ yX5_isFree.cls ≠ "java/lang/invoke/VarHandle" ∧ (parseMethodDescriptor yX5_isFree.desc).map (fun d => d.parameters.length) = some 1 := by decide +kernel
set_option maxHeartbeats 4000000 in
set_option maxRecDepth 100000 in
theorem mX5_isFree (l : Launch) (D : va_G) (cI cZ : ClassId) (q0 : Nat) (q1 : Nat) (q2 : Nat) (q3 : Nat) (d4 : Nat) (d5 : Nat) (d6 : Nat) (v_piece : Nat → Int32) (v_partner : Nat → Int32) (v_year : Int32) (x1 : Int32) (z : Int32) (hF : fX5_isFree v_piece v_partner x1 = some z) : mp l yX5_isFree wtX5_isFree rmX5_isFree D cI cZ [.ref q0, .int x1] (wdX5_isFree cI cZ q0 q1 q2 q3 d4 d5 d6 v_piece v_partner v_year) (some (.int z)) (wdX5_isFree cI cZ q0 q1 q2 q3 d4 d5 d6 v_piece v_partner v_year) := by
  refine mp_z (lv0 := [(0, .ref q0), (1, .int x1)]) cX5_isFree 2 z (by decide) rfl (Nat.le_of_ble_eq_true rfl) rfl (fun E h hend0 => ?_)
  have hend : ∀ (z' : Int32), some z' = some z → ∀ (pc : Nat) (lv : List (Nat × Value)), z' = z' &&& 1 → decode cX5_isFree pc = .ok (.ireturn, 1) → G l D E 2 0 0 (wdX5_isFree cI cZ q0 q1 q2 q3 d4 d5 d6 v_piece v_partner v_year) pc lv [.int z'] := fun z' e => by cases e; exact hend0
  clear hend0
  unfold fX5_isFree at hF
  refine g_aload_n (np := 1) h 0 rfl rfl dX5_isFree_0 rfl ?_
  refine g_get (np := 4) (T := TX5) h imX5_isFree_u_X5 0 5 rfl rfl 1 (by decide) (imX5_isFree_own _ (List.mem_of_getElem? (i := 0) rfl)) rfl dX5_isFree_1 rfl ?_
  refine g_iload_n (np := 5) h 1 rfl rfl dX5_isFree_4 rfl ?_
  obtain ⟨r1, hr1, hF⟩ := Option.bind_eq_some_iff.mp hF
  refine g_callV (np := 8) (Wd' := (wdX5_isFree cI cZ q0 q1 q2 q3 d4 d5 d6 v_piece v_partner v_year)) (As := [.int x1]) h (mX0_isOfNone l D cI cZ q1 q2 q3 d6 v_piece x1 r1 hr1) gcX5_isFree_X0_isOfNone rfl ⟨rfl, rfl⟩ ⟨rfl, hyX0_isOfNone⟩ rfl 0 1 rfl rfl rfl rfl rfl rfl ⟨Nat.zero_le _, Nat.zero_le _⟩ [1, 2] [0, 3] (N := 4) (by decide +kernel) rfl rfl rfl rfl rfl dX5_isFree_5 rfl ?_
  refine g_if_ne h hF dX5_isFree_8 (np := 11) rfl (tg := 26) rfl (fun c2 hF => ?_) (fun c2 hF => ?_)
  · refine g_iconst (np := 27) (v := (0 : Int32)) h (by decide) dX5_isFree_26 rfl ?_
    exact hend _ hF _ _ (by decide) dX5_isFree_27
  · refine g_aload_n (np := 12) h 0 rfl rfl dX5_isFree_11 rfl ?_
    refine g_get (np := 15) (T := TX5) h imX5_isFree_u_X5 0 5 rfl rfl 1 (by decide) (imX5_isFree_own _ (List.mem_of_getElem? (i := 0) rfl)) rfl dX5_isFree_12 rfl ?_
    refine g_iload_n (np := 16) h 1 rfl rfl dX5_isFree_15 rfl ?_
    obtain ⟨r3, hr3, hF⟩ := Option.bind_eq_some_iff.mp hF
    refine g_callV (np := 19) (Wd' := (wdX5_isFree cI cZ q0 q1 q2 q3 d4 d5 d6 v_piece v_partner v_year)) (As := [.int x1]) h (mX0_isWed l D cI cZ q1 q3 q2 d6 v_partner x1 r3 hr3) gcX5_isFree_X0_isWed rfl ⟨rfl, rfl⟩ ⟨rfl, hyX0_isWed⟩ rfl 0 1 rfl rfl rfl rfl rfl rfl ⟨Nat.zero_le _, Nat.zero_le _⟩ [1, 3] [0, 2] (N := 4) (by decide +kernel) rfl rfl rfl rfl rfl dX5_isFree_16 rfl ?_
    refine g_if_ne h hF dX5_isFree_19 (np := 22) rfl (tg := 26) rfl (fun c4 hF => ?_) (fun c4 hF => ?_)
    · refine g_iconst (np := 27) (v := (0 : Int32)) h (by decide) dX5_isFree_26 rfl ?_
      exact hend _ hF _ _ (by decide) dX5_isFree_27
    · refine g_iconst (np := 23) (v := (1 : Int32)) h (by decide) dX5_isFree_22 rfl ?_
      refine g_goto h dX5_isFree_23 (np := 27) rfl ?_
      exact hend _ hF _ _ (by decide) dX5_isFree_27
theorem dX5_mightWed_0 : decode cX5_mightWed 0 = .ok (.aload_n 0, 1) := by decide +kernel
theorem dX5_mightWed_1 : decode cX5_mightWed 1 = .ok (.iload_n 1, 1) := by decide +kernel
theorem dX5_mightWed_2 : decode cX5_mightWed 2 = .ok (.invokevirtual 81, 3) := by decide +kernel
theorem dX5_mightWed_5 : decode cX5_mightWed 5 = .ok (.ifCond .eq 28, 3) := by decide +kernel
theorem dX5_mightWed_8 : decode cX5_mightWed 8 = .ok (.aload_n 0, 1) := by decide +kernel
theorem dX5_mightWed_9 : decode cX5_mightWed 9 = .ok (.iload_n 2, 1) := by decide +kernel
theorem dX5_mightWed_10 : decode cX5_mightWed 10 = .ok (.invokevirtual 81, 3) := by decide +kernel
theorem dX5_mightWed_13 : decode cX5_mightWed 13 = .ok (.ifCond .eq 20, 3) := by decide +kernel
theorem dX5_mightWed_16 : decode cX5_mightWed 16 = .ok (.aload_n 0, 1) := by decide +kernel
theorem dX5_mightWed_17 : decode cX5_mightWed 17 = .ok (.iload_n 1, 1) := by decide +kernel
theorem dX5_mightWed_18 : decode cX5_mightWed 18 = .ok (.invokevirtual 68, 3) := by decide +kernel
theorem dX5_mightWed_21 : decode cX5_mightWed 21 = .ok (.aload_n 0, 1) := by decide +kernel
theorem dX5_mightWed_22 : decode cX5_mightWed 22 = .ok (.iload_n 2, 1) := by decide +kernel
theorem dX5_mightWed_23 : decode cX5_mightWed 23 = .ok (.invokevirtual 68, 3) := by decide +kernel
theorem dX5_mightWed_26 : decode cX5_mightWed 26 = .ok (.if_icmp .eq 7, 3) := by decide +kernel
theorem dX5_mightWed_29 : decode cX5_mightWed 29 = .ok (.iconst 1, 1) := by decide +kernel
theorem dX5_mightWed_30 : decode cX5_mightWed 30 = .ok (.goto 4, 3) := by decide +kernel
theorem dX5_mightWed_33 : decode cX5_mightWed 33 = .ok (.iconst 0, 1) := by decide +kernel
theorem dX5_mightWed_34 : decode cX5_mightWed 34 = .ok (.ireturn, 1) := by decide +kernel
def wtX5_mightWed : List Cond := .code yX5_mightWed cX5_mightWed 3 (some .boolean) :: (([]) ++ ((wsV RX5 81 RX5 yX5_isFree wtX5_isFree) ++ ((wsV RX5 68 RX5 yX5_wreckOf wtX5_wreckOf) ++ [])))
theorem imX5_mightWed_own : ∀ w ∈ ([] : List Cond), w ∈ wtX5_mightWed := fun w h => List.mem_cons_of_mem _ (inl h)
theorem imX5_mightWed_c_X5_isFree : ∀ w ∈ (wsV RX5 81 RX5 yX5_isFree wtX5_isFree : List Cond), w ∈ wtX5_mightWed := fun w h => List.mem_cons_of_mem _ (inr (inl h))
theorem imX5_mightWed_c_X5_wreckOf : ∀ w ∈ (wsV RX5 68 RX5 yX5_wreckOf wtX5_wreckOf : List Cond), w ∈ wtX5_mightWed := fun w h => List.mem_cons_of_mem _ (inr (inr (inl h)))
theorem gdX5_mightWed : ∀ w ∈ wtX5_mightWed, Gd w := gdc rfl (gda (gdl (by decide +kernel)) (gda (gda (gdl (by decide +kernel)) gdX5_isFree) (gda (gda (gdl (by decide +kernel)) gdX5_wreckOf) gdn)))
theorem gcX5_mightWed_X5_isFree : GoodIn wtX5_mightWed (wsV RX5 81 RX5 yX5_isFree wtX5_isFree) := fun w h => ⟨imX5_mightWed_c_X5_isFree w h, (gda (gdl (by decide +kernel)) gdX5_isFree) w h⟩
theorem gcX5_mightWed_X5_wreckOf : GoodIn wtX5_mightWed (wsV RX5 68 RX5 yX5_wreckOf wtX5_wreckOf) := fun w h => ⟨imX5_mightWed_c_X5_wreckOf w h, (gda (gdl (by decide +kernel)) gdX5_wreckOf) w h⟩
def fX5_mightWed (v_wreck : Nat → Int32) (v_piece : Nat → Int32) (v_partner : Nat → Int32) (x1 : Int32) (x2 : Int32) : Option (Int32) :=
  (fX5_isFree v_piece v_partner x1).bind (fun r1 =>
    if r1 = (0 : Int32) then
      some (0 : Int32)
    else
      (fX5_isFree v_piece v_partner x2).bind (fun r3 =>
        if r3 = (0 : Int32) then
          some (0 : Int32)
        else
          (fX5_wreckOf v_wreck v_piece x1).bind (fun r5 =>
            (fX5_wreckOf v_wreck v_piece x2).bind (fun r6 =>
              if r5 = r6 then
                some (0 : Int32)
              else
                some (1 : Int32)))))
def wdX5_mightWed (cI cZ : ClassId) (q0 : Nat) (q1 : Nat) (q2 : Nat) (q3 : Nat) (q4 : Nat) (q5 : Nat) (d6 : Nat) (d7 : Nat) (d8 : Nat) (d9 : Nat) (d10 : Nat) (d11 : Nat) (d12 : Nat) (d13 : Nat)  (v_wreck : Nat → Int32) (v_piece : Nat → Int32) (v_partner : Nat → Int32) (v_year : Int32) : va_W := [(q0, .inr (5, [.ref q1, .ref q3, .ref d6, .int v_year])), (q1, .inr (3, [.ref q2, .ref d7, .ref d8, .ref d9, .ref d10, .ref d11, .ref d12])), (q2, .inl (cI, 10, .inl v_wreck)), (q3, .inr (0, [.ref q4, .ref q5, .ref d13])), (q4, .inl (cI, 8, .inl v_piece)), (q5, .inl (cI, 8, .inl v_partner))]
abbrev rmX5_mightWed : Jvm.Room := { frames := 3, cells := 0, slots := 0, locals := 63 }
theorem hyX5_mightWed : yX5_mightWed.cls ≠ "java/lang/invoke/MethodHandle" ∧ yX5_mightWed.cls ≠ "java/lang/invoke/VarHandle" ∧ (parseMethodDescriptor yX5_mightWed.desc).map (fun d => d.parameters.length) = some 2 := by decide +kernel
set_option maxHeartbeats 4000000 in
set_option maxRecDepth 100000 in
theorem mX5_mightWed (l : Launch) (D : va_G) (cI cZ : ClassId) (q0 : Nat) (q1 : Nat) (q2 : Nat) (q3 : Nat) (q4 : Nat) (q5 : Nat) (d6 : Nat) (d7 : Nat) (d8 : Nat) (d9 : Nat) (d10 : Nat) (d11 : Nat) (d12 : Nat) (d13 : Nat) (v_wreck : Nat → Int32) (v_piece : Nat → Int32) (v_partner : Nat → Int32) (v_year : Int32) (x1 : Int32) (x2 : Int32) (z : Int32) (hF : fX5_mightWed v_wreck v_piece v_partner x1 x2 = some z) : mp l yX5_mightWed wtX5_mightWed rmX5_mightWed D cI cZ [.ref q0, .int x1, .int x2] (wdX5_mightWed cI cZ q0 q1 q2 q3 q4 q5 d6 d7 d8 d9 d10 d11 d12 d13 v_wreck v_piece v_partner v_year) (some (.int z)) (wdX5_mightWed cI cZ q0 q1 q2 q3 q4 q5 d6 d7 d8 d9 d10 d11 d12 d13 v_wreck v_piece v_partner v_year) := by
  refine mp_z (lv0 := [(0, .ref q0), (1, .int x1), (2, .int x2)]) cX5_mightWed 3 z (by decide) rfl (Nat.le_of_ble_eq_true rfl) rfl (fun E h hend0 => ?_)
  have hend : ∀ (z' : Int32), some z' = some z → ∀ (pc : Nat) (lv : List (Nat × Value)), z' = z' &&& 1 → decode cX5_mightWed pc = .ok (.ireturn, 1) → G l D E 3 0 0 (wdX5_mightWed cI cZ q0 q1 q2 q3 q4 q5 d6 d7 d8 d9 d10 d11 d12 d13 v_wreck v_piece v_partner v_year) pc lv [.int z'] := fun z' e => by cases e; exact hend0
  clear hend0
  unfold fX5_mightWed at hF
  refine g_aload_n (np := 1) h 0 rfl rfl dX5_mightWed_0 rfl ?_
  refine g_iload_n (np := 2) h 1 rfl rfl dX5_mightWed_1 rfl ?_
  obtain ⟨r1, hr1, hF⟩ := Option.bind_eq_some_iff.mp hF
  refine g_callV (np := 5) (Wd' := (wdX5_mightWed cI cZ q0 q1 q2 q3 q4 q5 d6 d7 d8 d9 d10 d11 d12 d13 v_wreck v_piece v_partner v_year)) (As := [.int x1]) h (mX5_isFree l D cI cZ q0 q3 q4 q5 q1 d6 d13 v_piece v_partner v_year x1 r1 hr1) gcX5_mightWed_X5_isFree rfl ⟨rfl, rfl⟩ ⟨rfl, hyX5_isFree⟩ rfl 5 0 rfl rfl rfl rfl rfl rfl ⟨Nat.zero_le _, Nat.zero_le _⟩ [0, 3, 4, 5] [1, 2] (N := 6) (by decide +kernel) rfl rfl rfl rfl rfl dX5_mightWed_2 rfl ?_
  refine g_if_eq h hF dX5_mightWed_5 (np := 8) rfl (tg := 33) rfl (fun c2 hF => ?_) (fun c2 hF => ?_)
  · refine g_iconst (np := 34) (v := (0 : Int32)) h (by decide) dX5_mightWed_33 rfl ?_
    exact hend _ hF _ _ (by decide) dX5_mightWed_34
  · refine g_aload_n (np := 9) h 0 rfl rfl dX5_mightWed_8 rfl ?_
    refine g_iload_n (np := 10) h 2 rfl rfl dX5_mightWed_9 rfl ?_
    obtain ⟨r3, hr3, hF⟩ := Option.bind_eq_some_iff.mp hF
    refine g_callV (np := 13) (Wd' := (wdX5_mightWed cI cZ q0 q1 q2 q3 q4 q5 d6 d7 d8 d9 d10 d11 d12 d13 v_wreck v_piece v_partner v_year)) (As := [.int x2]) h (mX5_isFree l D cI cZ q0 q3 q4 q5 q1 d6 d13 v_piece v_partner v_year x2 r3 hr3) gcX5_mightWed_X5_isFree rfl ⟨rfl, rfl⟩ ⟨rfl, hyX5_isFree⟩ rfl 5 0 rfl rfl rfl rfl rfl rfl ⟨Nat.zero_le _, Nat.zero_le _⟩ [0, 3, 4, 5] [1, 2] (N := 6) (by decide +kernel) rfl rfl rfl rfl rfl dX5_mightWed_10 rfl ?_
    refine g_if_eq h hF dX5_mightWed_13 (np := 16) rfl (tg := 33) rfl (fun c4 hF => ?_) (fun c4 hF => ?_)
    · refine g_iconst (np := 34) (v := (0 : Int32)) h (by decide) dX5_mightWed_33 rfl ?_
      exact hend _ hF _ _ (by decide) dX5_mightWed_34
    · refine g_aload_n (np := 17) h 0 rfl rfl dX5_mightWed_16 rfl ?_
      refine g_iload_n (np := 18) h 1 rfl rfl dX5_mightWed_17 rfl ?_
      obtain ⟨r5, hr5, hF⟩ := Option.bind_eq_some_iff.mp hF
      refine g_callV (np := 21) (Wd' := (wdX5_mightWed cI cZ q0 q1 q2 q3 q4 q5 d6 d7 d8 d9 d10 d11 d12 d13 v_wreck v_piece v_partner v_year)) (As := [.int x1]) h (mX5_wreckOf l D cI cZ q0 q1 q2 q3 q4 d6 d7 d8 d9 d10 d11 d12 q5 d13 v_wreck v_piece v_year x1 r5 hr5) gcX5_mightWed_X5_wreckOf rfl ⟨rfl, rfl⟩ ⟨rfl, hyX5_wreckOf⟩ rfl 5 0 rfl rfl rfl rfl rfl rfl ⟨Nat.zero_le _, Nat.zero_le _⟩ [0, 1, 2, 3, 4] [5] (N := 6) (by decide +kernel) rfl rfl rfl rfl rfl dX5_mightWed_18 rfl ?_
      refine g_aload_n (np := 22) h 0 rfl rfl dX5_mightWed_21 rfl ?_
      refine g_iload_n (np := 23) h 2 rfl rfl dX5_mightWed_22 rfl ?_
      obtain ⟨r6, hr6, hF⟩ := Option.bind_eq_some_iff.mp hF
      refine g_callV (np := 26) (Wd' := (wdX5_mightWed cI cZ q0 q1 q2 q3 q4 q5 d6 d7 d8 d9 d10 d11 d12 d13 v_wreck v_piece v_partner v_year)) (As := [.int x2]) h (mX5_wreckOf l D cI cZ q0 q1 q2 q3 q4 d6 d7 d8 d9 d10 d11 d12 q5 d13 v_wreck v_piece v_year x2 r6 hr6) gcX5_mightWed_X5_wreckOf rfl ⟨rfl, rfl⟩ ⟨rfl, hyX5_wreckOf⟩ rfl 5 0 rfl rfl rfl rfl rfl rfl ⟨Nat.zero_le _, Nat.zero_le _⟩ [0, 1, 2, 3, 4] [5] (N := 6) (by decide +kernel) rfl rfl rfl rfl rfl dX5_mightWed_23 rfl ?_
      refine g_icmp_eq h hF dX5_mightWed_26 (np := 29) rfl (tg := 33) rfl (fun c7 hF => ?_) (fun c7 hF => ?_)
      · refine g_iconst (np := 34) (v := (0 : Int32)) h (by decide) dX5_mightWed_33 rfl ?_
        exact hend _ hF _ _ (by decide) dX5_mightWed_34
      · refine g_iconst (np := 30) (v := (1 : Int32)) h (by decide) dX5_mightWed_29 rfl ?_
        refine g_goto h dX5_mightWed_30 (np := 34) rfl ?_
        exact hend _ hF _ _ (by decide) dX5_mightWed_34
end
section
theorem dX7_begin_0 : decode cX7_begin 0 = .ok (.aload_n 0, 1) := by decide +kernel
theorem dX7_begin_1 : decode cX7_begin 1 = .ok (.getfield 12, 3) := by decide +kernel
theorem dX7_begin_4 : decode cX7_begin 4 = .ok (.aload_n 1, 1) := by decide +kernel
theorem dX7_begin_5 : decode cX7_begin 5 = .ok (.invokevirtual 28, 3) := by decide +kernel
theorem dX7_begin_8 : decode cX7_begin 8 = .ok (.aload_n 0, 1) := by decide +kernel
theorem dX7_begin_9 : decode cX7_begin 9 = .ok (.iconst 0, 1) := by decide +kernel
theorem dX7_begin_10 : decode cX7_begin 10 = .ok (.putfield 18, 3) := by decide +kernel
theorem dX7_begin_13 : decode cX7_begin 13 = .ok (.aload_n 0, 1) := by decide +kernel
theorem dX7_begin_14 : decode cX7_begin 14 = .ok (.iconst 0, 1) := by decide +kernel
theorem dX7_begin_15 : decode cX7_begin 15 = .ok (.putfield 22, 3) := by decide +kernel
theorem dX7_begin_18 : decode cX7_begin 18 = .ok (.aload_n 0, 1) := by decide +kernel
theorem dX7_begin_19 : decode cX7_begin 19 = .ok (.iconst 0, 1) := by decide +kernel
theorem dX7_begin_20 : decode cX7_begin 20 = .ok (.putfield 25, 3) := by decide +kernel
theorem dX7_begin_23 : decode cX7_begin 23 = .ok (.return_, 1) := by decide +kernel
def wtX7_begin : List Cond := .code yX7_begin cX7_begin 2 none :: (([.fieldLink RX7 12 "DriftKin$Years" "end" "LDriftKin$Shore;", .fieldLink RX7 18 "DriftKin$Years" "acts" "I", .fieldLink RX7 22 "DriftKin$Years" "why" "I", .fieldLink RX7 25 "DriftKin$Years" "weddings" "I"]) ++ ((u_ws RX7 TX7 4) ++ ((wsV RX7 28 RX5 yX5_become wtX5_become) ++ [])))
theorem imX7_begin_own : ∀ w ∈ ([.fieldLink RX7 12 "DriftKin$Years" "end" "LDriftKin$Shore;", .fieldLink RX7 18 "DriftKin$Years" "acts" "I", .fieldLink RX7 22 "DriftKin$Years" "why" "I", .fieldLink RX7 25 "DriftKin$Years" "weddings" "I"] : List Cond), w ∈ wtX7_begin := fun w h => List.mem_cons_of_mem _ (inl h)
theorem imX7_begin_u_X7 : ∀ w ∈ (u_ws RX7 TX7 4 : List Cond), w ∈ wtX7_begin := fun w h => List.mem_cons_of_mem _ (inr (inl h))
theorem imX7_begin_c_X5_become : ∀ w ∈ (wsV RX7 28 RX5 yX5_become wtX5_become : List Cond), w ∈ wtX7_begin := fun w h => List.mem_cons_of_mem _ (inr (inr (inl h)))
theorem gdX7_begin : ∀ w ∈ wtX7_begin, Gd w := gdc rfl (gda (gdl (by decide +kernel)) (gda (gdu _ _ _) (gda (gda (gdl (by decide +kernel)) gdX5_become) gdn)))
theorem gcX7_begin_X5_become : GoodIn wtX7_begin (wsV RX7 28 RX5 yX5_become wtX5_become) := fun w h => ⟨imX7_begin_c_X5_become w h, (gda (gdl (by decide +kernel)) gdX5_become) w h⟩
def fX7_begin (v_acts : Int32) (v_why : Int32) (v_weddings : Int32) (v_year : Int32) (v_wreck : Nat → Int32) (v_wood : Nat → Int32) (v_length : Nat → Int32) (v_left : Nat → Int32) (v_right : Nat → Int32) (v_place : Nat → Int32) (v_rings : Nat → Int32) (v_piece : Nat → Int32) (v_partner : Nat → Int32) (v_children : Nat → Int32) (v_count : Int32) (v_house : Nat → Int32) (v_reach : Nat → Int32) (v_sounded : Nat → Int32) (v_year2 : Int32) (v_wreck2 : Nat → Int32) (v_wood2 : Nat → Int32) (v_length2 : Nat → Int32) (v_left2 : Nat → Int32) (v_right2 : Nat → Int32) (v_place2 : Nat → Int32) (v_rings2 : Nat → Int32) (v_piece2 : Nat → Int32) (v_partner2 : Nat → Int32) (v_children2 : Nat → Int32) (v_count2 : Int32) (v_house2 : Nat → Int32) (v_reach2 : Nat → Int32) (v_sounded2 : Nat → Int32) : Option (Int32 × Int32 × Int32 × Int32 × (Nat → Int32) × (Nat → Int32) × (Nat → Int32) × (Nat → Int32) × (Nat → Int32) × (Nat → Int32) × (Nat → Int32) × (Nat → Int32) × (Nat → Int32) × (Nat → Int32) × Int32 × (Nat → Int32) × (Nat → Int32) × (Nat → Int32)) :=
  (fX5_become v_year v_wreck v_wood v_length v_left v_right v_place v_rings v_piece v_partner v_children v_count v_house v_reach v_sounded v_year2 v_wreck2 v_wood2 v_length2 v_left2 v_right2 v_place2 v_rings2 v_piece2 v_partner2 v_children2 v_count2 v_house2 v_reach2 v_sounded2).bind (fun r1 =>
    some ((0 : Int32), (0 : Int32), (0 : Int32), r1.1, r1.2.1, r1.2.2.1, r1.2.2.2.1, r1.2.2.2.2.1, r1.2.2.2.2.2.1, r1.2.2.2.2.2.2.1, r1.2.2.2.2.2.2.2.1, r1.2.2.2.2.2.2.2.2.1, r1.2.2.2.2.2.2.2.2.2.1, r1.2.2.2.2.2.2.2.2.2.2.1, r1.2.2.2.2.2.2.2.2.2.2.2.1, r1.2.2.2.2.2.2.2.2.2.2.2.2.1, r1.2.2.2.2.2.2.2.2.2.2.2.2.2.1, r1.2.2.2.2.2.2.2.2.2.2.2.2.2.2))
def wdX7_begin (cI cZ : ClassId) (q0 : Nat) (q1 : Nat) (q2 : Nat) (q3 : Nat) (q4 : Nat) (q5 : Nat) (q6 : Nat) (q7 : Nat) (q8 : Nat) (q9 : Nat) (q10 : Nat) (q11 : Nat) (q12 : Nat) (q13 : Nat) (q14 : Nat) (q15 : Nat) (q16 : Nat) (q17 : Nat) (q18 : Nat) (q19 : Nat) (q20 : Nat) (q21 : Nat) (q22 : Nat) (q23 : Nat) (q24 : Nat) (q25 : Nat) (q26 : Nat) (q27 : Nat) (q28 : Nat) (q29 : Nat) (q30 : Nat) (q31 : Nat) (q32 : Nat) (q33 : Nat) (q34 : Nat)  (v_acts : Int32) (v_why : Int32) (v_weddings : Int32) (v_year : Int32) (v_wreck : Nat → Int32) (v_wood : Nat → Int32) (v_length : Nat → Int32) (v_left : Nat → Int32) (v_right : Nat → Int32) (v_place : Nat → Int32) (v_rings : Nat → Int32) (v_piece : Nat → Int32) (v_partner : Nat → Int32) (v_children : Nat → Int32) (v_count : Int32) (v_house : Nat → Int32) (v_reach : Nat → Int32) (v_sounded : Nat → Int32) (v_year2 : Int32) (v_wreck2 : Nat → Int32) (v_wood2 : Nat → Int32) (v_length2 : Nat → Int32) (v_left2 : Nat → Int32) (v_right2 : Nat → Int32) (v_place2 : Nat → Int32) (v_rings2 : Nat → Int32) (v_piece2 : Nat → Int32) (v_partner2 : Nat → Int32) (v_children2 : Nat → Int32) (v_count2 : Int32) (v_house2 : Nat → Int32) (v_reach2 : Nat → Int32) (v_sounded2 : Nat → Int32) : va_W := [(q0, .inr (7, [.ref q1, .int v_acts, .int v_why, .int v_weddings])), (q1, .inr (5, [.ref q2, .ref q10, .ref q14, .int v_year])), (q2, .inr (3, [.ref q3, .ref q4, .ref q5, .ref q6, .ref q7, .ref q8, .ref q9])), (q3, .inl (cI, 10, .inl v_wreck)), (q4, .inl (cI, 10, .inl v_wood)), (q5, .inl (cI, 10, .inl v_length)), (q6, .inl (cI, 10, .inl v_left)), (q7, .inl (cI, 10, .inl v_right)), (q8, .inl (cI, 10, .inl v_place)), (q9, .inl (cI, 10, .inl v_rings)), (q10, .inr (0, [.ref q11, .ref q12, .ref q13])), (q11, .inl (cI, 8, .inl v_piece)), (q12, .inl (cI, 8, .inl v_partner)), (q13, .inl (cI, 8, .inl v_children)), (q14, .inr (6, [.ref q15, .ref q16, .ref q17, .int v_count])), (q15, .inl (cI, 8, .inl v_house)), (q16, .inl (cI, 8, .inl v_reach)), (q17, .inl (cI, 8, .inl v_sounded)), (q18, .inr (5, [.ref q19, .ref q27, .ref q31, .int v_year2])), (q19, .inr (3, [.ref q20, .ref q21, .ref q22, .ref q23, .ref q24, .ref q25, .ref q26])), (q20, .inl (cI, 10, .inl v_wreck2)), (q21, .inl (cI, 10, .inl v_wood2)), (q22, .inl (cI, 10, .inl v_length2)), (q23, .inl (cI, 10, .inl v_left2)), (q24, .inl (cI, 10, .inl v_right2)), (q25, .inl (cI, 10, .inl v_place2)), (q26, .inl (cI, 10, .inl v_rings2)), (q27, .inr (0, [.ref q28, .ref q29, .ref q30])), (q28, .inl (cI, 8, .inl v_piece2)), (q29, .inl (cI, 8, .inl v_partner2)), (q30, .inl (cI, 8, .inl v_children2)), (q31, .inr (6, [.ref q32, .ref q33, .ref q34, .int v_count2])), (q32, .inl (cI, 8, .inl v_house2)), (q33, .inl (cI, 8, .inl v_reach2)), (q34, .inl (cI, 8, .inl v_sounded2))]
abbrev rmX7_begin : Jvm.Room := { frames := 3, cells := 0, slots := 0, locals := 64 }
theorem hyX7_begin : yX7_begin.cls ≠ "java/lang/invoke/MethodHandle" ∧ yX7_begin.cls ≠ "java/lang/invoke/VarHandle" ∧ (parseMethodDescriptor yX7_begin.desc).map (fun d => d.parameters.length) = some 1 := by decide +kernel
set_option maxHeartbeats 4000000 in
set_option maxRecDepth 100000 in
theorem mX7_begin (l : Launch) (D : va_G) (cI cZ : ClassId) (q0 : Nat) (q1 : Nat) (q2 : Nat) (q3 : Nat) (q4 : Nat) (q5 : Nat) (q6 : Nat) (q7 : Nat) (q8 : Nat) (q9 : Nat) (q10 : Nat) (q11 : Nat) (q12 : Nat) (q13 : Nat) (q14 : Nat) (q15 : Nat) (q16 : Nat) (q17 : Nat) (q18 : Nat) (q19 : Nat) (q20 : Nat) (q21 : Nat) (q22 : Nat) (q23 : Nat) (q24 : Nat) (q25 : Nat) (q26 : Nat) (q27 : Nat) (q28 : Nat) (q29 : Nat) (q30 : Nat) (q31 : Nat) (q32 : Nat) (q33 : Nat) (q34 : Nat) (v_acts : Int32) (v_why : Int32) (v_weddings : Int32) (v_year : Int32) (v_wreck : Nat → Int32) (v_wood : Nat → Int32) (v_length : Nat → Int32) (v_left : Nat → Int32) (v_right : Nat → Int32) (v_place : Nat → Int32) (v_rings : Nat → Int32) (v_piece : Nat → Int32) (v_partner : Nat → Int32) (v_children : Nat → Int32) (v_count : Int32) (v_house : Nat → Int32) (v_reach : Nat → Int32) (v_sounded : Nat → Int32) (v_year2 : Int32) (v_wreck2 : Nat → Int32) (v_wood2 : Nat → Int32) (v_length2 : Nat → Int32) (v_left2 : Nat → Int32) (v_right2 : Nat → Int32) (v_place2 : Nat → Int32) (v_rings2 : Nat → Int32) (v_piece2 : Nat → Int32) (v_partner2 : Nat → Int32) (v_children2 : Nat → Int32) (v_count2 : Int32) (v_house2 : Nat → Int32) (v_reach2 : Nat → Int32) (v_sounded2 : Nat → Int32) (z : Int32 × Int32 × Int32 × Int32 × (Nat → Int32) × (Nat → Int32) × (Nat → Int32) × (Nat → Int32) × (Nat → Int32) × (Nat → Int32) × (Nat → Int32) × (Nat → Int32) × (Nat → Int32) × (Nat → Int32) × Int32 × (Nat → Int32) × (Nat → Int32) × (Nat → Int32)) (hF : fX7_begin v_acts v_why v_weddings v_year v_wreck v_wood v_length v_left v_right v_place v_rings v_piece v_partner v_children v_count v_house v_reach v_sounded v_year2 v_wreck2 v_wood2 v_length2 v_left2 v_right2 v_place2 v_rings2 v_piece2 v_partner2 v_children2 v_count2 v_house2 v_reach2 v_sounded2 = some z) : mp l yX7_begin wtX7_begin rmX7_begin D cI cZ [.ref q0, .ref q18] (wdX7_begin cI cZ q0 q1 q2 q3 q4 q5 q6 q7 q8 q9 q10 q11 q12 q13 q14 q15 q16 q17 q18 q19 q20 q21 q22 q23 q24 q25 q26 q27 q28 q29 q30 q31 q32 q33 q34 v_acts v_why v_weddings v_year v_wreck v_wood v_length v_left v_right v_place v_rings v_piece v_partner v_children v_count v_house v_reach v_sounded v_year2 v_wreck2 v_wood2 v_length2 v_left2 v_right2 v_place2 v_rings2 v_piece2 v_partner2 v_children2 v_count2 v_house2 v_reach2 v_sounded2) none (wdX7_begin cI cZ q0 q1 q2 q3 q4 q5 q6 q7 q8 q9 q10 q11 q12 q13 q14 q15 q16 q17 q18 q19 q20 q21 q22 q23 q24 q25 q26 q27 q28 q29 q30 q31 q32 q33 q34 z.1 z.2.1 z.2.2.1 z.2.2.2.1 z.2.2.2.2.1 z.2.2.2.2.2.1 z.2.2.2.2.2.2.1 z.2.2.2.2.2.2.2.1 z.2.2.2.2.2.2.2.2.1 z.2.2.2.2.2.2.2.2.2.1 z.2.2.2.2.2.2.2.2.2.2.1 z.2.2.2.2.2.2.2.2.2.2.2.1 z.2.2.2.2.2.2.2.2.2.2.2.2.1 z.2.2.2.2.2.2.2.2.2.2.2.2.2.1 z.2.2.2.2.2.2.2.2.2.2.2.2.2.2.1 z.2.2.2.2.2.2.2.2.2.2.2.2.2.2.2.1 z.2.2.2.2.2.2.2.2.2.2.2.2.2.2.2.2.1 z.2.2.2.2.2.2.2.2.2.2.2.2.2.2.2.2.2 v_year2 v_wreck2 v_wood2 v_length2 v_left2 v_right2 v_place2 v_rings2 v_piece2 v_partner2 v_children2 v_count2 v_house2 v_reach2 v_sounded2) := by
  refine mp_v (lv0 := [(0, .ref q0), (1, .ref q18)]) cX7_begin 2 (by decide) rfl (Nat.le_of_ble_eq_true rfl) rfl (fun E h hend0 => ?_)
  have hend : ∀ (z' : Int32 × Int32 × Int32 × Int32 × (Nat → Int32) × (Nat → Int32) × (Nat → Int32) × (Nat → Int32) × (Nat → Int32) × (Nat → Int32) × (Nat → Int32) × (Nat → Int32) × (Nat → Int32) × (Nat → Int32) × Int32 × (Nat → Int32) × (Nat → Int32) × (Nat → Int32)), some z' = some z → ∀ (pc : Nat) (lv : List (Nat × Value)), decode cX7_begin pc = .ok (.return_, 1) → G l D E 2 0 0 (wdX7_begin cI cZ q0 q1 q2 q3 q4 q5 q6 q7 q8 q9 q10 q11 q12 q13 q14 q15 q16 q17 q18 q19 q20 q21 q22 q23 q24 q25 q26 q27 q28 q29 q30 q31 q32 q33 q34 (z'.1) (z'.2.1) (z'.2.2.1) (z'.2.2.2.1) (z'.2.2.2.2.1) (z'.2.2.2.2.2.1) (z'.2.2.2.2.2.2.1) (z'.2.2.2.2.2.2.2.1) (z'.2.2.2.2.2.2.2.2.1) (z'.2.2.2.2.2.2.2.2.2.1) (z'.2.2.2.2.2.2.2.2.2.2.1) (z'.2.2.2.2.2.2.2.2.2.2.2.1) (z'.2.2.2.2.2.2.2.2.2.2.2.2.1) (z'.2.2.2.2.2.2.2.2.2.2.2.2.2.1) (z'.2.2.2.2.2.2.2.2.2.2.2.2.2.2.1) (z'.2.2.2.2.2.2.2.2.2.2.2.2.2.2.2.1) (z'.2.2.2.2.2.2.2.2.2.2.2.2.2.2.2.2.1) (z'.2.2.2.2.2.2.2.2.2.2.2.2.2.2.2.2.2) v_year2 v_wreck2 v_wood2 v_length2 v_left2 v_right2 v_place2 v_rings2 v_piece2 v_partner2 v_children2 v_count2 v_house2 v_reach2 v_sounded2) pc lv [] := fun z' e => by cases e; exact hend0
  clear hend0
  unfold fX7_begin at hF
  refine g_aload_n (np := 1) h 0 rfl rfl dX7_begin_0 rfl ?_
  refine g_get (np := 4) (T := TX7) h imX7_begin_u_X7 0 7 rfl rfl 0 (by decide) (imX7_begin_own _ (List.mem_of_getElem? (i := 0) rfl)) rfl dX7_begin_1 rfl ?_
  refine g_aload_n (np := 5) h 1 rfl rfl dX7_begin_4 rfl ?_
  obtain ⟨r1, hr1, hF⟩ := Option.bind_eq_some_iff.mp hF
  refine g_callV (np := 8) (Wd' := (wdX7_begin cI cZ q0 q1 q2 q3 q4 q5 q6 q7 q8 q9 q10 q11 q12 q13 q14 q15 q16 q17 q18 q19 q20 q21 q22 q23 q24 q25 q26 q27 q28 q29 q30 q31 q32 q33 q34 v_acts v_why v_weddings r1.1 r1.2.1 r1.2.2.1 r1.2.2.2.1 r1.2.2.2.2.1 r1.2.2.2.2.2.1 r1.2.2.2.2.2.2.1 r1.2.2.2.2.2.2.2.1 r1.2.2.2.2.2.2.2.2.1 r1.2.2.2.2.2.2.2.2.2.1 r1.2.2.2.2.2.2.2.2.2.2.1 r1.2.2.2.2.2.2.2.2.2.2.2.1 r1.2.2.2.2.2.2.2.2.2.2.2.2.1 r1.2.2.2.2.2.2.2.2.2.2.2.2.2.1 r1.2.2.2.2.2.2.2.2.2.2.2.2.2.2 v_year2 v_wreck2 v_wood2 v_length2 v_left2 v_right2 v_place2 v_rings2 v_piece2 v_partner2 v_children2 v_count2 v_house2 v_reach2 v_sounded2)) (As := [.ref q18]) h (mX5_become l D cI cZ q1 q2 q3 q4 q5 q6 q7 q8 q9 q10 q11 q12 q13 q14 q15 q16 q17 q18 q19 q20 q21 q22 q23 q24 q25 q26 q27 q28 q29 q30 q31 q32 q33 q34 v_year v_wreck v_wood v_length v_left v_right v_place v_rings v_piece v_partner v_children v_count v_house v_reach v_sounded v_year2 v_wreck2 v_wood2 v_length2 v_left2 v_right2 v_place2 v_rings2 v_piece2 v_partner2 v_children2 v_count2 v_house2 v_reach2 v_sounded2 r1 hr1) gcX7_begin_X5_become rfl ⟨rfl, rfl⟩ ⟨rfl, hyX5_become⟩ rfl 5 1 rfl rfl rfl rfl rfl rfl ⟨Nat.zero_le _, Nat.zero_le _⟩ [1, 2, 3, 4, 5, 6, 7, 8, 9, 10, 11, 12, 13, 14, 15, 16, 17, 18, 19, 20, 21, 22, 23, 24, 25, 26, 27, 28, 29, 30, 31, 32, 33, 34] [0] (N := 35) (by decide +kernel) rfl rfl rfl rfl rfl dX7_begin_5 rfl ?_
  refine g_aload_n (np := 9) h 0 rfl rfl dX7_begin_8 rfl ?_
  refine g_iconst (np := 10) (v := (0 : Int32)) h (by decide) dX7_begin_9 rfl ?_
  refine g_put (np := 13) (T := TX7) (Wd' := (wdX7_begin cI cZ q0 q1 q2 q3 q4 q5 q6 q7 q8 q9 q10 q11 q12 q13 q14 q15 q16 q17 q18 q19 q20 q21 q22 q23 q24 q25 q26 q27 q28 q29 q30 q31 q32 q33 q34 (0 : Int32) v_why v_weddings r1.1 r1.2.1 r1.2.2.1 r1.2.2.2.1 r1.2.2.2.2.1 r1.2.2.2.2.2.1 r1.2.2.2.2.2.2.1 r1.2.2.2.2.2.2.2.1 r1.2.2.2.2.2.2.2.2.1 r1.2.2.2.2.2.2.2.2.2.1 r1.2.2.2.2.2.2.2.2.2.2.1 r1.2.2.2.2.2.2.2.2.2.2.2.1 r1.2.2.2.2.2.2.2.2.2.2.2.2.1 r1.2.2.2.2.2.2.2.2.2.2.2.2.2.1 r1.2.2.2.2.2.2.2.2.2.2.2.2.2.2 v_year2 v_wreck2 v_wood2 v_length2 v_left2 v_right2 v_place2 v_rings2 v_piece2 v_partner2 v_children2 v_count2 v_house2 v_reach2 v_sounded2)) h imX7_begin_u_X7 tyX7_ok nmX7 0 7 rfl rfl 1 (by decide) (imX7_begin_own _ (List.mem_of_getElem? (i := 1) rfl)) rfl rfl rfl (Nat.le_of_ble_eq_true rfl) rfl dX7_begin_10 rfl ?_
  refine g_aload_n (np := 14) h 0 rfl rfl dX7_begin_13 rfl ?_
  refine g_iconst (np := 15) (v := (0 : Int32)) h (by decide) dX7_begin_14 rfl ?_
  refine g_put (np := 18) (T := TX7) (Wd' := (wdX7_begin cI cZ q0 q1 q2 q3 q4 q5 q6 q7 q8 q9 q10 q11 q12 q13 q14 q15 q16 q17 q18 q19 q20 q21 q22 q23 q24 q25 q26 q27 q28 q29 q30 q31 q32 q33 q34 (0 : Int32) (0 : Int32) v_weddings r1.1 r1.2.1 r1.2.2.1 r1.2.2.2.1 r1.2.2.2.2.1 r1.2.2.2.2.2.1 r1.2.2.2.2.2.2.1 r1.2.2.2.2.2.2.2.1 r1.2.2.2.2.2.2.2.2.1 r1.2.2.2.2.2.2.2.2.2.1 r1.2.2.2.2.2.2.2.2.2.2.1 r1.2.2.2.2.2.2.2.2.2.2.2.1 r1.2.2.2.2.2.2.2.2.2.2.2.2.1 r1.2.2.2.2.2.2.2.2.2.2.2.2.2.1 r1.2.2.2.2.2.2.2.2.2.2.2.2.2.2 v_year2 v_wreck2 v_wood2 v_length2 v_left2 v_right2 v_place2 v_rings2 v_piece2 v_partner2 v_children2 v_count2 v_house2 v_reach2 v_sounded2)) h imX7_begin_u_X7 tyX7_ok nmX7 0 7 rfl rfl 2 (by decide) (imX7_begin_own _ (List.mem_of_getElem? (i := 2) rfl)) rfl rfl rfl (Nat.le_of_ble_eq_true rfl) rfl dX7_begin_15 rfl ?_
  refine g_aload_n (np := 19) h 0 rfl rfl dX7_begin_18 rfl ?_
  refine g_iconst (np := 20) (v := (0 : Int32)) h (by decide) dX7_begin_19 rfl ?_
  refine g_put (np := 23) (T := TX7) (Wd' := (wdX7_begin cI cZ q0 q1 q2 q3 q4 q5 q6 q7 q8 q9 q10 q11 q12 q13 q14 q15 q16 q17 q18 q19 q20 q21 q22 q23 q24 q25 q26 q27 q28 q29 q30 q31 q32 q33 q34 (0 : Int32) (0 : Int32) (0 : Int32) r1.1 r1.2.1 r1.2.2.1 r1.2.2.2.1 r1.2.2.2.2.1 r1.2.2.2.2.2.1 r1.2.2.2.2.2.2.1 r1.2.2.2.2.2.2.2.1 r1.2.2.2.2.2.2.2.2.1 r1.2.2.2.2.2.2.2.2.2.1 r1.2.2.2.2.2.2.2.2.2.2.1 r1.2.2.2.2.2.2.2.2.2.2.2.1 r1.2.2.2.2.2.2.2.2.2.2.2.2.1 r1.2.2.2.2.2.2.2.2.2.2.2.2.2.1 r1.2.2.2.2.2.2.2.2.2.2.2.2.2.2 v_year2 v_wreck2 v_wood2 v_length2 v_left2 v_right2 v_place2 v_rings2 v_piece2 v_partner2 v_children2 v_count2 v_house2 v_reach2 v_sounded2)) h imX7_begin_u_X7 tyX7_ok nmX7 0 7 rfl rfl 3 (by decide) (imX7_begin_own _ (List.mem_of_getElem? (i := 3) rfl)) rfl rfl rfl (Nat.le_of_ble_eq_true rfl) rfl dX7_begin_20 rfl ?_
  exact hend _ hF _ _ dX7_begin_23
theorem dX7_homeAct_0 : decode cX7_homeAct 0 = .ok (.iload_n 2, 1) := by decide +kernel
theorem dX7_homeAct_1 : decode cX7_homeAct 1 = .ok (.bipush 45, 2) := by decide +kernel
theorem dX7_homeAct_3 : decode cX7_homeAct 3 = .ok (.if_icmp .ne 12, 3) := by decide +kernel
theorem dX7_homeAct_6 : decode cX7_homeAct 6 = .ok (.aload_n 0, 1) := by decide +kernel
theorem dX7_homeAct_7 : decode cX7_homeAct 7 = .ok (.getfield 12, 3) := by decide +kernel
theorem dX7_homeAct_10 : decode cX7_homeAct 10 = .ok (.iload_n 1, 1) := by decide +kernel
theorem dX7_homeAct_11 : decode cX7_homeAct 11 = .ok (.invokevirtual 67, 3) := by decide +kernel
theorem dX7_homeAct_14 : decode cX7_homeAct 14 = .ok (.ireturn, 1) := by decide +kernel
theorem dX7_homeAct_15 : decode cX7_homeAct 15 = .ok (.iload_n 2, 1) := by decide +kernel
theorem dX7_homeAct_16 : decode cX7_homeAct 16 = .ok (.bipush 42, 2) := by decide +kernel
theorem dX7_homeAct_18 : decode cX7_homeAct 18 = .ok (.if_icmp .ne 14, 3) := by decide +kernel
theorem dX7_homeAct_21 : decode cX7_homeAct 21 = .ok (.aload_n 0, 1) := by decide +kernel
theorem dX7_homeAct_22 : decode cX7_homeAct 22 = .ok (.getfield 12, 3) := by decide +kernel
theorem dX7_homeAct_25 : decode cX7_homeAct 25 = .ok (.iload_n 1, 1) := by decide +kernel
theorem dX7_homeAct_26 : decode cX7_homeAct 26 = .ok (.invokevirtual 70, 3) := by decide +kernel
theorem dX7_homeAct_29 : decode cX7_homeAct 29 = .ok (.goto 15, 3) := by decide +kernel
theorem dX7_homeAct_32 : decode cX7_homeAct 32 = .ok (.aload_n 0, 1) := by decide +kernel
theorem dX7_homeAct_33 : decode cX7_homeAct 33 = .ok (.getfield 12, 3) := by decide +kernel
theorem dX7_homeAct_36 : decode cX7_homeAct 36 = .ok (.iload_n 1, 1) := by decide +kernel
theorem dX7_homeAct_37 : decode cX7_homeAct 37 = .ok (.iload_n 2, 1) := by decide +kernel
theorem dX7_homeAct_38 : decode cX7_homeAct 38 = .ok (.bipush 48, 2) := by decide +kernel
theorem dX7_homeAct_40 : decode cX7_homeAct 40 = .ok (.isub, 1) := by decide +kernel
theorem dX7_homeAct_41 : decode cX7_homeAct 41 = .ok (.invokevirtual 73, 3) := by decide +kernel
theorem dX7_homeAct_44 : decode cX7_homeAct 44 = .ok (.ireturn, 1) := by decide +kernel
def wtX7_homeAct : List Cond := .code yX7_homeAct cX7_homeAct 3 (some .int) :: (([.fieldLink RX7 12 "DriftKin$Years" "end" "LDriftKin$Shore;"]) ++ ((u_ws RX7 TX7 4) ++ ((wsV RX7 67 RX5 yX5_part wtX5_part) ++ ((wsV RX7 70 RX5 yX5_burn wtX5_burn) ++ ((wsV RX7 73 RX5 yX5_takeHome wtX5_takeHome) ++ [])))))
theorem imX7_homeAct_own : ∀ w ∈ ([.fieldLink RX7 12 "DriftKin$Years" "end" "LDriftKin$Shore;"] : List Cond), w ∈ wtX7_homeAct := fun w h => List.mem_cons_of_mem _ (inl h)
theorem imX7_homeAct_u_X7 : ∀ w ∈ (u_ws RX7 TX7 4 : List Cond), w ∈ wtX7_homeAct := fun w h => List.mem_cons_of_mem _ (inr (inl h))
theorem imX7_homeAct_c_X5_part : ∀ w ∈ (wsV RX7 67 RX5 yX5_part wtX5_part : List Cond), w ∈ wtX7_homeAct := fun w h => List.mem_cons_of_mem _ (inr (inr (inl h)))
theorem imX7_homeAct_c_X5_burn : ∀ w ∈ (wsV RX7 70 RX5 yX5_burn wtX5_burn : List Cond), w ∈ wtX7_homeAct := fun w h => List.mem_cons_of_mem _ (inr (inr (inr (inl h))))
theorem imX7_homeAct_c_X5_takeHome : ∀ w ∈ (wsV RX7 73 RX5 yX5_takeHome wtX5_takeHome : List Cond), w ∈ wtX7_homeAct := fun w h => List.mem_cons_of_mem _ (inr (inr (inr (inr (inl h)))))
theorem gdX7_homeAct : ∀ w ∈ wtX7_homeAct, Gd w := gdc rfl (gda (gdl (by decide +kernel)) (gda (gdu _ _ _) (gda (gda (gdl (by decide +kernel)) gdX5_part) (gda (gda (gdl (by decide +kernel)) gdX5_burn) (gda (gda (gdl (by decide +kernel)) gdX5_takeHome) gdn)))))
theorem gcX7_homeAct_X5_part : GoodIn wtX7_homeAct (wsV RX7 67 RX5 yX5_part wtX5_part) := fun w h => ⟨imX7_homeAct_c_X5_part w h, (gda (gdl (by decide +kernel)) gdX5_part) w h⟩
theorem gcX7_homeAct_X5_burn : GoodIn wtX7_homeAct (wsV RX7 70 RX5 yX5_burn wtX5_burn) := fun w h => ⟨imX7_homeAct_c_X5_burn w h, (gda (gdl (by decide +kernel)) gdX5_burn) w h⟩
theorem gcX7_homeAct_X5_takeHome : GoodIn wtX7_homeAct (wsV RX7 73 RX5 yX5_takeHome wtX5_takeHome) := fun w h => ⟨imX7_homeAct_c_X5_takeHome w h, (gda (gdl (by decide +kernel)) gdX5_takeHome) w h⟩
def fX7_homeAct (v_place : Nat → Int32) (v_piece : Nat → Int32) (v_partner : Nat → Int32) (x1 : Int32) (x2 : Int32) : Option (Int32 × (Nat → Int32) × (Nat → Int32) × (Nat → Int32)) :=
  if x2 = (45 : Int32) then
    (fX5_part v_partner x1).bind (fun r5 =>
      some (r5.1, v_place, v_piece, r5.2))
  else
    if x2 = (42 : Int32) then
      (fX5_burn v_place v_piece x1).bind (fun r4 =>
        some (r4.1, r4.2.1, r4.2.2, v_partner))
    else
      (fX5_takeHome v_place v_piece x1 (x2 - (48 : Int32))).bind (fun r3 =>
        some (r3.1, r3.2.1, r3.2.2, v_partner))
def wdX7_homeAct (cI cZ : ClassId) (q0 : Nat) (q1 : Nat) (q2 : Nat) (q3 : Nat) (q4 : Nat) (q5 : Nat) (q6 : Nat) (d7 : Nat) (d8 : Nat) (d9 : Nat) (d10 : Nat) (d11 : Nat) (d12 : Nat) (d13 : Nat) (d14 : Nat)  (v_place : Nat → Int32) (v_piece : Nat → Int32) (v_partner : Nat → Int32) (v_acts : Int32) (v_why : Int32) (v_weddings : Int32) (v_year : Int32) : va_W := [(q0, .inr (7, [.ref q1, .int v_acts, .int v_why, .int v_weddings])), (q1, .inr (5, [.ref q2, .ref q4, .ref d7, .int v_year])), (q2, .inr (3, [.ref d8, .ref d9, .ref d10, .ref d11, .ref d12, .ref q3, .ref d13])), (q3, .inl (cI, 10, .inl v_place)), (q4, .inr (0, [.ref q5, .ref q6, .ref d14])), (q5, .inl (cI, 8, .inl v_piece)), (q6, .inl (cI, 8, .inl v_partner))]
abbrev rmX7_homeAct : Jvm.Room := { frames := 3, cells := 0, slots := 0, locals := 64 }
theorem hyX7_homeAct : yX7_homeAct.cls ≠ "java/lang/invoke/MethodHandle" ∧ yX7_homeAct.cls ≠ "java/lang/invoke/VarHandle" ∧ (parseMethodDescriptor yX7_homeAct.desc).map (fun d => d.parameters.length) = some 2 := by decide +kernel
set_option maxHeartbeats 4000000 in
set_option maxRecDepth 100000 in
theorem mX7_homeAct (l : Launch) (D : va_G) (cI cZ : ClassId) (q0 : Nat) (q1 : Nat) (q2 : Nat) (q3 : Nat) (q4 : Nat) (q5 : Nat) (q6 : Nat) (d7 : Nat) (d8 : Nat) (d9 : Nat) (d10 : Nat) (d11 : Nat) (d12 : Nat) (d13 : Nat) (d14 : Nat) (v_place : Nat → Int32) (v_piece : Nat → Int32) (v_partner : Nat → Int32) (v_acts : Int32) (v_why : Int32) (v_weddings : Int32) (v_year : Int32) (x1 : Int32) (x2 : Int32) (z : Int32 × (Nat → Int32) × (Nat → Int32) × (Nat → Int32)) (hF : fX7_homeAct v_place v_piece v_partner x1 x2 = some z) : mp l yX7_homeAct wtX7_homeAct rmX7_homeAct D cI cZ [.ref q0, .int x1, .int x2] (wdX7_homeAct cI cZ q0 q1 q2 q3 q4 q5 q6 d7 d8 d9 d10 d11 d12 d13 d14 v_place v_piece v_partner v_acts v_why v_weddings v_year) (some (.int z.1)) (wdX7_homeAct cI cZ q0 q1 q2 q3 q4 q5 q6 d7 d8 d9 d10 d11 d12 d13 d14 z.2.1 z.2.2.1 z.2.2.2 v_acts v_why v_weddings v_year) := by
  refine mp_i (lv0 := [(0, .ref q0), (1, .int x1), (2, .int x2)]) cX7_homeAct 3 z.1 (by decide) rfl (Nat.le_of_ble_eq_true rfl) rfl (fun E h hend0 => ?_)
  have hend : ∀ (z' : Int32 × (Nat → Int32) × (Nat → Int32) × (Nat → Int32)), some z' = some z → ∀ (pc : Nat) (lv : List (Nat × Value)), decode cX7_homeAct pc = .ok (.ireturn, 1) → G l D E 3 0 0 (wdX7_homeAct cI cZ q0 q1 q2 q3 q4 q5 q6 d7 d8 d9 d10 d11 d12 d13 d14 (z'.2.1) (z'.2.2.1) (z'.2.2.2) v_acts v_why v_weddings v_year) pc lv [.int z'.1] := fun z' e => by cases e; exact hend0
  clear hend0
  unfold fX7_homeAct at hF
  refine g_iload_n (np := 1) h 2 rfl rfl dX7_homeAct_0 rfl ?_
  refine g_bipush (np := 3) (v := (45 : Int32)) h (by decide) dX7_homeAct_1 rfl ?_
  refine g_icmp_ne h hF dX7_homeAct_3 (np := 6) rfl (tg := 15) rfl (fun c1 hF => ?_) (fun c1 hF => ?_)
  · refine g_iload_n (np := 16) h 2 rfl rfl dX7_homeAct_15 rfl ?_
    refine g_bipush (np := 18) (v := (42 : Int32)) h (by decide) dX7_homeAct_16 rfl ?_
    refine g_icmp_ne h hF dX7_homeAct_18 (np := 21) rfl (tg := 32) rfl (fun c2 hF => ?_) (fun c2 hF => ?_)
    · refine g_aload_n (np := 33) h 0 rfl rfl dX7_homeAct_32 rfl ?_
      refine g_get (np := 36) (T := TX7) h imX7_homeAct_u_X7 0 7 rfl rfl 0 (by decide) (imX7_homeAct_own _ (List.mem_of_getElem? (i := 0) rfl)) rfl dX7_homeAct_33 rfl ?_
      refine g_iload_n (np := 37) h 1 rfl rfl dX7_homeAct_36 rfl ?_
      refine g_iload_n (np := 38) h 2 rfl rfl dX7_homeAct_37 rfl ?_
      refine g_bipush (np := 40) (v := (48 : Int32)) h (by decide) dX7_homeAct_38 rfl ?_
      refine g_isub (np := 41) h dX7_homeAct_40 rfl ?_
      obtain ⟨r3, hr3, hF⟩ := Option.bind_eq_some_iff.mp hF
      refine g_callV (np := 44) (Wd' := (wdX7_homeAct cI cZ q0 q1 q2 q3 q4 q5 q6 d7 d8 d9 d10 d11 d12 d13 d14 r3.2.1 r3.2.2 v_partner v_acts v_why v_weddings v_year)) (As := [.int x1, .int (x2 - (48 : Int32))]) h (mX5_takeHome l D cI cZ q1 q2 q3 q4 q5 d7 d8 d9 d10 d11 d12 d13 q6 d14 v_place v_piece v_year x1 (x2 - (48 : Int32)) r3 hr3) gcX7_homeAct_X5_takeHome rfl ⟨rfl, rfl⟩ ⟨rfl, hyX5_takeHome⟩ rfl 5 1 rfl rfl rfl rfl rfl rfl ⟨Nat.zero_le _, Nat.zero_le _⟩ [1, 2, 3, 4, 5] [0, 6] (N := 7) (by decide +kernel) rfl rfl rfl rfl rfl dX7_homeAct_41 rfl ?_
      exact hend _ hF _ _ dX7_homeAct_44
    · refine g_aload_n (np := 22) h 0 rfl rfl dX7_homeAct_21 rfl ?_
      refine g_get (np := 25) (T := TX7) h imX7_homeAct_u_X7 0 7 rfl rfl 0 (by decide) (imX7_homeAct_own _ (List.mem_of_getElem? (i := 0) rfl)) rfl dX7_homeAct_22 rfl ?_
      refine g_iload_n (np := 26) h 1 rfl rfl dX7_homeAct_25 rfl ?_
      obtain ⟨r4, hr4, hF⟩ := Option.bind_eq_some_iff.mp hF
      refine g_callV (np := 29) (Wd' := (wdX7_homeAct cI cZ q0 q1 q2 q3 q4 q5 q6 d7 d8 d9 d10 d11 d12 d13 d14 r4.2.1 r4.2.2 v_partner v_acts v_why v_weddings v_year)) (As := [.int x1]) h (mX5_burn l D cI cZ q1 q2 q3 q4 q5 d7 d8 d9 d10 d11 d12 d13 q6 d14 v_place v_piece v_year x1 r4 hr4) gcX7_homeAct_X5_burn rfl ⟨rfl, rfl⟩ ⟨rfl, hyX5_burn⟩ rfl 5 1 rfl rfl rfl rfl rfl rfl ⟨Nat.zero_le _, Nat.zero_le _⟩ [1, 2, 3, 4, 5] [0, 6] (N := 7) (by decide +kernel) rfl rfl rfl rfl rfl dX7_homeAct_26 rfl ?_
      refine g_goto h dX7_homeAct_29 (np := 44) rfl ?_
      exact hend _ hF _ _ dX7_homeAct_44
  · refine g_aload_n (np := 7) h 0 rfl rfl dX7_homeAct_6 rfl ?_
    refine g_get (np := 10) (T := TX7) h imX7_homeAct_u_X7 0 7 rfl rfl 0 (by decide) (imX7_homeAct_own _ (List.mem_of_getElem? (i := 0) rfl)) rfl dX7_homeAct_7 rfl ?_
    refine g_iload_n (np := 11) h 1 rfl rfl dX7_homeAct_10 rfl ?_
    obtain ⟨r5, hr5, hF⟩ := Option.bind_eq_some_iff.mp hF
    refine g_callV (np := 14) (Wd' := (wdX7_homeAct cI cZ q0 q1 q2 q3 q4 q5 q6 d7 d8 d9 d10 d11 d12 d13 d14 v_place v_piece r5.2 v_acts v_why v_weddings v_year)) (As := [.int x1]) h (mX5_part l D cI cZ q1 q4 q6 q2 d7 q5 d14 v_partner v_year x1 r5 hr5) gcX7_homeAct_X5_part rfl ⟨rfl, rfl⟩ ⟨rfl, hyX5_part⟩ rfl 5 1 rfl rfl rfl rfl rfl rfl ⟨Nat.zero_le _, Nat.zero_le _⟩ [1, 4, 6] [0, 2, 3, 5] (N := 7) (by decide +kernel) rfl rfl rfl rfl rfl dX7_homeAct_11 rfl ?_
    exact hend _ hF _ _ dX7_homeAct_14
theorem dX7_wed_0 : decode cX7_wed 0 = .ok (.aload_n 0, 1) := by decide +kernel
theorem dX7_wed_1 : decode cX7_wed 1 = .ok (.getfield 12, 3) := by decide +kernel
theorem dX7_wed_4 : decode cX7_wed 4 = .ok (.iload_n 1, 1) := by decide +kernel
theorem dX7_wed_5 : decode cX7_wed 5 = .ok (.iload_n 2, 1) := by decide +kernel
theorem dX7_wed_6 : decode cX7_wed 6 = .ok (.invokevirtual 76, 3) := by decide +kernel
theorem dX7_wed_9 : decode cX7_wed 9 = .ok (.istore_n 3, 1) := by decide +kernel
theorem dX7_wed_10 : decode cX7_wed 10 = .ok (.iload_n 3, 1) := by decide +kernel
theorem dX7_wed_11 : decode cX7_wed 11 = .ok (.ifCond .ne 13, 3) := by decide +kernel
theorem dX7_wed_14 : decode cX7_wed 14 = .ok (.aload_n 0, 1) := by decide +kernel
theorem dX7_wed_15 : decode cX7_wed 15 = .ok (.dup, 1) := by decide +kernel
theorem dX7_wed_16 : decode cX7_wed 16 = .ok (.getfield 25, 3) := by decide +kernel
theorem dX7_wed_19 : decode cX7_wed 19 = .ok (.iconst 1, 1) := by decide +kernel
theorem dX7_wed_20 : decode cX7_wed 20 = .ok (.iadd, 1) := by decide +kernel
theorem dX7_wed_21 : decode cX7_wed 21 = .ok (.putfield 25, 3) := by decide +kernel
theorem dX7_wed_24 : decode cX7_wed 24 = .ok (.iload_n 3, 1) := by decide +kernel
theorem dX7_wed_25 : decode cX7_wed 25 = .ok (.ireturn, 1) := by decide +kernel
def wtX7_wed : List Cond := .code yX7_wed cX7_wed 4 (some .int) :: (([.fieldLink RX7 12 "DriftKin$Years" "end" "LDriftKin$Shore;", .fieldLink RX7 25 "DriftKin$Years" "weddings" "I"]) ++ ((u_ws RX7 TX7 4) ++ ((wsV RX7 76 RX5 yX5_marry wtX5_marry) ++ [])))
theorem imX7_wed_own : ∀ w ∈ ([.fieldLink RX7 12 "DriftKin$Years" "end" "LDriftKin$Shore;", .fieldLink RX7 25 "DriftKin$Years" "weddings" "I"] : List Cond), w ∈ wtX7_wed := fun w h => List.mem_cons_of_mem _ (inl h)
theorem imX7_wed_u_X7 : ∀ w ∈ (u_ws RX7 TX7 4 : List Cond), w ∈ wtX7_wed := fun w h => List.mem_cons_of_mem _ (inr (inl h))
theorem imX7_wed_c_X5_marry : ∀ w ∈ (wsV RX7 76 RX5 yX5_marry wtX5_marry : List Cond), w ∈ wtX7_wed := fun w h => List.mem_cons_of_mem _ (inr (inr (inl h)))
theorem gdX7_wed : ∀ w ∈ wtX7_wed, Gd w := gdc rfl (gda (gdl (by decide +kernel)) (gda (gdu _ _ _) (gda (gda (gdl (by decide +kernel)) gdX5_marry) gdn)))
theorem gcX7_wed_X5_marry : GoodIn wtX7_wed (wsV RX7 76 RX5 yX5_marry wtX5_marry) := fun w h => ⟨imX7_wed_c_X5_marry w h, (gda (gdl (by decide +kernel)) gdX5_marry) w h⟩
def fX7_wed (v_weddings : Int32) (v_wreck : Nat → Int32) (v_piece : Nat → Int32) (v_partner : Nat → Int32) (x1 : Int32) (x2 : Int32) : Option (Int32 × Int32 × (Nat → Int32)) :=
  (fX5_marry v_wreck v_piece v_partner x1 x2).bind (fun r1 =>
    if r1.1 = (0 : Int32) then
      some (r1.1, (v_weddings + (1 : Int32)), r1.2)
    else
      some (r1.1, v_weddings, r1.2))
def wdX7_wed (cI cZ : ClassId) (q0 : Nat) (q1 : Nat) (q2 : Nat) (q3 : Nat) (q4 : Nat) (q5 : Nat) (q6 : Nat) (d7 : Nat) (d8 : Nat) (d9 : Nat) (d10 : Nat) (d11 : Nat) (d12 : Nat) (d13 : Nat) (d14 : Nat)  (v_weddings : Int32) (v_wreck : Nat → Int32) (v_piece : Nat → Int32) (v_partner : Nat → Int32) (v_acts : Int32) (v_why : Int32) (v_year : Int32) : va_W := [(q0, .inr (7, [.ref q1, .int v_acts, .int v_why, .int v_weddings])), (q1, .inr (5, [.ref q2, .ref q4, .ref d7, .int v_year])), (q2, .inr (3, [.ref q3, .ref d8, .ref d9, .ref d10, .ref d11, .ref d12, .ref d13])), (q3, .inl (cI, 10, .inl v_wreck)), (q4, .inr (0, [.ref q5, .ref q6, .ref d14])), (q5, .inl (cI, 8, .inl v_piece)), (q6, .inl (cI, 8, .inl v_partner))]
abbrev rmX7_wed : Jvm.Room := { frames := 3, cells := 0, slots := 0, locals := 64 }
theorem hyX7_wed : yX7_wed.cls ≠ "java/lang/invoke/MethodHandle" ∧ yX7_wed.cls ≠ "java/lang/invoke/VarHandle" ∧ (parseMethodDescriptor yX7_wed.desc).map (fun d => d.parameters.length) = some 2 := by decide +kernel
set_option maxHeartbeats 4000000 in
set_option maxRecDepth 100000 in
theorem mX7_wed (l : Launch) (D : va_G) (cI cZ : ClassId) (q0 : Nat) (q1 : Nat) (q2 : Nat) (q3 : Nat) (q4 : Nat) (q5 : Nat) (q6 : Nat) (d7 : Nat) (d8 : Nat) (d9 : Nat) (d10 : Nat) (d11 : Nat) (d12 : Nat) (d13 : Nat) (d14 : Nat) (v_weddings : Int32) (v_wreck : Nat → Int32) (v_piece : Nat → Int32) (v_partner : Nat → Int32) (v_acts : Int32) (v_why : Int32) (v_year : Int32) (x1 : Int32) (x2 : Int32) (z : Int32 × Int32 × (Nat → Int32)) (hF : fX7_wed v_weddings v_wreck v_piece v_partner x1 x2 = some z) : mp l yX7_wed wtX7_wed rmX7_wed D cI cZ [.ref q0, .int x1, .int x2] (wdX7_wed cI cZ q0 q1 q2 q3 q4 q5 q6 d7 d8 d9 d10 d11 d12 d13 d14 v_weddings v_wreck v_piece v_partner v_acts v_why v_year) (some (.int z.1)) (wdX7_wed cI cZ q0 q1 q2 q3 q4 q5 q6 d7 d8 d9 d10 d11 d12 d13 d14 z.2.1 v_wreck v_piece z.2.2 v_acts v_why v_year) := by
  refine mp_i (lv0 := [(0, .ref q0), (1, .int x1), (2, .int x2)]) cX7_wed 4 z.1 (by decide) rfl (Nat.le_of_ble_eq_true rfl) rfl (fun E h hend0 => ?_)
  have hend : ∀ (z' : Int32 × Int32 × (Nat → Int32)), some z' = some z → ∀ (pc : Nat) (lv : List (Nat × Value)), decode cX7_wed pc = .ok (.ireturn, 1) → G l D E 4 0 0 (wdX7_wed cI cZ q0 q1 q2 q3 q4 q5 q6 d7 d8 d9 d10 d11 d12 d13 d14 (z'.2.1) v_wreck v_piece (z'.2.2) v_acts v_why v_year) pc lv [.int z'.1] := fun z' e => by cases e; exact hend0
  clear hend0
  unfold fX7_wed at hF
  refine g_aload_n (np := 1) h 0 rfl rfl dX7_wed_0 rfl ?_
  refine g_get (np := 4) (T := TX7) h imX7_wed_u_X7 0 7 rfl rfl 0 (by decide) (imX7_wed_own _ (List.mem_of_getElem? (i := 0) rfl)) rfl dX7_wed_1 rfl ?_
  refine g_iload_n (np := 5) h 1 rfl rfl dX7_wed_4 rfl ?_
  refine g_iload_n (np := 6) h 2 rfl rfl dX7_wed_5 rfl ?_
  obtain ⟨r1, hr1, hF⟩ := Option.bind_eq_some_iff.mp hF
  refine g_callV (np := 9) (Wd' := (wdX7_wed cI cZ q0 q1 q2 q3 q4 q5 q6 d7 d8 d9 d10 d11 d12 d13 d14 v_weddings v_wreck v_piece r1.2 v_acts v_why v_year)) (As := [.int x1, .int x2]) h (mX5_marry l D cI cZ q1 q2 q3 q4 q5 q6 d7 d8 d9 d10 d11 d12 d13 d14 v_wreck v_piece v_partner v_year x1 x2 r1 hr1) gcX7_wed_X5_marry rfl ⟨rfl, rfl⟩ ⟨rfl, hyX5_marry⟩ rfl 5 1 rfl rfl rfl rfl rfl rfl ⟨Nat.zero_le _, Nat.zero_le _⟩ [1, 2, 3, 4, 5, 6] [0] (N := 7) (by decide +kernel) rfl rfl rfl rfl rfl dX7_wed_6 rfl ?_
  refine g_istore_n (np := 10) (lv' := [(3, .int r1.1), (0, .ref q0), (1, .int x1), (2, .int x2)]) h rfl (by decide) rfl dX7_wed_9 rfl ?_
  refine g_iload_n (np := 11) h 0 rfl rfl dX7_wed_10 rfl ?_
  refine g_if_ne h hF dX7_wed_11 (np := 14) rfl (tg := 24) rfl (fun c2 hF => ?_) (fun c2 hF => ?_)
  · refine g_iload_n (np := 25) h 0 rfl rfl dX7_wed_24 rfl ?_
    exact hend _ hF _ _ dX7_wed_25
  · refine g_aload_n (np := 15) h 1 rfl rfl dX7_wed_14 rfl ?_
    refine g_dup (np := 16) h rfl dX7_wed_15 rfl ?_
    refine g_get (np := 19) (T := TX7) h imX7_wed_u_X7 0 7 rfl rfl 3 (by decide) (imX7_wed_own _ (List.mem_of_getElem? (i := 1) rfl)) rfl dX7_wed_16 rfl ?_
    refine g_iconst (np := 20) (v := (1 : Int32)) h (by decide) dX7_wed_19 rfl ?_
    refine g_iadd (np := 21) h dX7_wed_20 rfl ?_
    refine g_put (np := 24) (T := TX7) (Wd' := (wdX7_wed cI cZ q0 q1 q2 q3 q4 q5 q6 d7 d8 d9 d10 d11 d12 d13 d14 (v_weddings + (1 : Int32)) v_wreck v_piece r1.2 v_acts v_why v_year)) h imX7_wed_u_X7 tyX7_ok nmX7 0 7 rfl rfl 3 (by decide) (imX7_wed_own _ (List.mem_of_getElem? (i := 1) rfl)) rfl rfl rfl (Nat.le_of_ble_eq_true rfl) rfl dX7_wed_21 rfl ?_
    refine g_iload_n (np := 25) h 0 rfl rfl dX7_wed_24 rfl ?_
    exact hend _ hF _ _ dX7_wed_25
theorem dX7_tell_0 : decode cX7_tell 0 = .ok (.aload_n 0, 1) := by decide +kernel
theorem dX7_tell_1 : decode cX7_tell 1 = .ok (.aload_n 2, 1) := by decide +kernel
theorem dX7_tell_2 : decode cX7_tell 2 = .ok (.invokevirtual 32, 3) := by decide +kernel
theorem dX7_tell_5 : decode cX7_tell 5 = .ok (.iconst 0, 1) := by decide +kernel
theorem dX7_tell_6 : decode cX7_tell 6 = .ok (.istore_n 3, 1) := by decide +kernel
theorem dX7_tell_7 : decode cX7_tell 7 = .ok (.iconst 0, 1) := by decide +kernel
theorem dX7_tell_8 : decode cX7_tell 8 = .ok (.istore 4, 2) := by decide +kernel
theorem dX7_tell_10 : decode cX7_tell 10 = .ok (.iload 4, 2) := by decide +kernel
theorem dX7_tell_12 : decode cX7_tell 12 = .ok (.bipush 60, 2) := by decide +kernel
theorem dX7_tell_14 : decode cX7_tell 14 = .ok (.if_icmp .ge 161, 3) := by decide +kernel
theorem dX7_tell_17 : decode cX7_tell 17 = .ok (.iload_n 3, 1) := by decide +kernel
theorem dX7_tell_18 : decode cX7_tell 18 = .ok (.aload_n 1, 1) := by decide +kernel
theorem dX7_tell_19 : decode cX7_tell 19 = .ok (.getfield 35, 3) := by decide +kernel
theorem dX7_tell_22 : decode cX7_tell 22 = .ok (.if_icmp .ge 153, 3) := by decide +kernel
theorem dX7_tell_25 : decode cX7_tell 25 = .ok (.aload_n 1, 1) := by decide +kernel
theorem dX7_tell_26 : decode cX7_tell 26 = .ok (.getfield 40, 3) := by decide +kernel
theorem dX7_tell_29 : decode cX7_tell 29 = .ok (.iload_n 3, 1) := by decide +kernel
theorem dX7_tell_30 : decode cX7_tell 30 = .ok (.invokestatic 44, 3) := by decide +kernel
theorem dX7_tell_33 : decode cX7_tell 33 = .ok (.istore 5, 2) := by decide +kernel
theorem dX7_tell_35 : decode cX7_tell 35 = .ok (.aload_n 1, 1) := by decide +kernel
theorem dX7_tell_36 : decode cX7_tell 36 = .ok (.getfield 40, 3) := by decide +kernel
theorem dX7_tell_39 : decode cX7_tell 39 = .ok (.iload_n 3, 1) := by decide +kernel
theorem dX7_tell_40 : decode cX7_tell 40 = .ok (.iconst 1, 1) := by decide +kernel
theorem dX7_tell_41 : decode cX7_tell 41 = .ok (.iadd, 1) := by decide +kernel
theorem dX7_tell_42 : decode cX7_tell 42 = .ok (.invokestatic 44, 3) := by decide +kernel
theorem dX7_tell_45 : decode cX7_tell 45 = .ok (.istore 6, 2) := by decide +kernel
theorem dX7_tell_47 : decode cX7_tell 47 = .ok (.iload 5, 2) := by decide +kernel
theorem dX7_tell_49 : decode cX7_tell 49 = .ok (.invokestatic 48, 3) := by decide +kernel
theorem dX7_tell_52 : decode cX7_tell 52 = .ok (.ifCond .ne 42, 3) := by decide +kernel
theorem dX7_tell_55 : decode cX7_tell 55 = .ok (.aload_n 0, 1) := by decide +kernel
theorem dX7_tell_56 : decode cX7_tell 56 = .ok (.iload 5, 2) := by decide +kernel
theorem dX7_tell_58 : decode cX7_tell 58 = .ok (.bipush 46, 2) := by decide +kernel
theorem dX7_tell_60 : decode cX7_tell 60 = .ok (.if_icmp .ne 13, 3) := by decide +kernel
theorem dX7_tell_63 : decode cX7_tell 63 = .ok (.aload_n 0, 1) := by decide +kernel
theorem dX7_tell_64 : decode cX7_tell 64 = .ok (.getfield 12, 3) := by decide +kernel
theorem dX7_tell_67 : decode cX7_tell 67 = .ok (.invokevirtual 52, 3) := by decide +kernel
theorem dX7_tell_70 : decode cX7_tell 70 = .ok (.goto 15, 3) := by decide +kernel
theorem dX7_tell_73 : decode cX7_tell 73 = .ok (.aload_n 0, 1) := by decide +kernel
theorem dX7_tell_74 : decode cX7_tell 74 = .ok (.getfield 12, 3) := by decide +kernel
theorem dX7_tell_77 : decode cX7_tell 77 = .ok (.iload 5, 2) := by decide +kernel
theorem dX7_tell_79 : decode cX7_tell 79 = .ok (.bipush 48, 2) := by decide +kernel
theorem dX7_tell_81 : decode cX7_tell 81 = .ok (.isub, 1) := by decide +kernel
theorem dX7_tell_82 : decode cX7_tell 82 = .ok (.invokevirtual 56, 3) := by decide +kernel
theorem dX7_tell_85 : decode cX7_tell 85 = .ok (.putfield 22, 3) := by decide +kernel
theorem dX7_tell_88 : decode cX7_tell 88 = .ok (.iinc 3 1, 3) := by decide +kernel
theorem dX7_tell_91 : decode cX7_tell 91 = .ok (.goto 60, 3) := by decide +kernel
theorem dX7_tell_94 : decode cX7_tell 94 = .ok (.iload 6, 2) := by decide +kernel
theorem dX7_tell_96 : decode cX7_tell 96 = .ok (.bipush 43, 2) := by decide +kernel
theorem dX7_tell_98 : decode cX7_tell 98 = .ok (.if_icmp .ne 35, 3) := by decide +kernel
theorem dX7_tell_101 : decode cX7_tell 101 = .ok (.aload_n 0, 1) := by decide +kernel
theorem dX7_tell_102 : decode cX7_tell 102 = .ok (.aload_n 0, 1) := by decide +kernel
theorem dX7_tell_103 : decode cX7_tell 103 = .ok (.iload 5, 2) := by decide +kernel
theorem dX7_tell_105 : decode cX7_tell 105 = .ok (.bipush 65, 2) := by decide +kernel
theorem dX7_tell_107 : decode cX7_tell 107 = .ok (.isub, 1) := by decide +kernel
theorem dX7_tell_108 : decode cX7_tell 108 = .ok (.aload_n 1, 1) := by decide +kernel
theorem dX7_tell_109 : decode cX7_tell 109 = .ok (.getfield 40, 3) := by decide +kernel
theorem dX7_tell_112 : decode cX7_tell 112 = .ok (.iload_n 3, 1) := by decide +kernel
theorem dX7_tell_113 : decode cX7_tell 113 = .ok (.iconst 2, 1) := by decide +kernel
theorem dX7_tell_114 : decode cX7_tell 114 = .ok (.iadd, 1) := by decide +kernel
theorem dX7_tell_115 : decode cX7_tell 115 = .ok (.invokestatic 44, 3) := by decide +kernel
theorem dX7_tell_118 : decode cX7_tell 118 = .ok (.bipush 65, 2) := by decide +kernel
theorem dX7_tell_120 : decode cX7_tell 120 = .ok (.isub, 1) := by decide +kernel
theorem dX7_tell_121 : decode cX7_tell 121 = .ok (.invokevirtual 60, 3) := by decide +kernel
theorem dX7_tell_124 : decode cX7_tell 124 = .ok (.putfield 22, 3) := by decide +kernel
theorem dX7_tell_127 : decode cX7_tell 127 = .ok (.iinc 3 3, 3) := by decide +kernel
theorem dX7_tell_130 : decode cX7_tell 130 = .ok (.goto 21, 3) := by decide +kernel
theorem dX7_tell_133 : decode cX7_tell 133 = .ok (.aload_n 0, 1) := by decide +kernel
theorem dX7_tell_134 : decode cX7_tell 134 = .ok (.aload_n 0, 1) := by decide +kernel
theorem dX7_tell_135 : decode cX7_tell 135 = .ok (.iload 5, 2) := by decide +kernel
theorem dX7_tell_137 : decode cX7_tell 137 = .ok (.bipush 65, 2) := by decide +kernel
theorem dX7_tell_139 : decode cX7_tell 139 = .ok (.isub, 1) := by decide +kernel
theorem dX7_tell_140 : decode cX7_tell 140 = .ok (.iload 6, 2) := by decide +kernel
theorem dX7_tell_142 : decode cX7_tell 142 = .ok (.invokevirtual 64, 3) := by decide +kernel
theorem dX7_tell_145 : decode cX7_tell 145 = .ok (.putfield 22, 3) := by decide +kernel
theorem dX7_tell_148 : decode cX7_tell 148 = .ok (.iinc 3 2, 3) := by decide +kernel
theorem dX7_tell_151 : decode cX7_tell 151 = .ok (.aload_n 0, 1) := by decide +kernel
theorem dX7_tell_152 : decode cX7_tell 152 = .ok (.getfield 22, 3) := by decide +kernel
theorem dX7_tell_155 : decode cX7_tell 155 = .ok (.ifCond .eq 4, 3) := by decide +kernel
theorem dX7_tell_158 : decode cX7_tell 158 = .ok (.return_, 1) := by decide +kernel
theorem dX7_tell_159 : decode cX7_tell 159 = .ok (.aload_n 0, 1) := by decide +kernel
theorem dX7_tell_160 : decode cX7_tell 160 = .ok (.dup, 1) := by decide +kernel
theorem dX7_tell_161 : decode cX7_tell 161 = .ok (.getfield 18, 3) := by decide +kernel
theorem dX7_tell_164 : decode cX7_tell 164 = .ok (.iconst 1, 1) := by decide +kernel
theorem dX7_tell_165 : decode cX7_tell 165 = .ok (.iadd, 1) := by decide +kernel
theorem dX7_tell_166 : decode cX7_tell 166 = .ok (.putfield 18, 3) := by decide +kernel
theorem dX7_tell_169 : decode cX7_tell 169 = .ok (.iinc 4 1, 3) := by decide +kernel
theorem dX7_tell_172 : decode cX7_tell 172 = .ok (.goto (-162), 3) := by decide +kernel
theorem dX7_tell_175 : decode cX7_tell 175 = .ok (.return_, 1) := by decide +kernel
def wtX7_tell : List Cond := .code yX7_tell cX7_tell 7 none :: (([.fieldLink RX7 35 "DriftKin$Pad" "count" "I", .fieldLink RX7 40 "DriftKin$Pad" "signs" "[I", .static yX8_at, .initialized RX8, .fieldLink RX7 12 "DriftKin$Years" "end" "LDriftKin$Shore;", .fieldLink RX7 22 "DriftKin$Years" "why" "I", .fieldLink RX7 18 "DriftKin$Years" "acts" "I"]) ++ ((u_ws RX2 TX2 2) ++ ((u_ws RX7 TX7 4) ++ ((wsV RX7 32 RX7 yX7_begin wtX7_begin) ++ ((wtX8_at) ++ ((va_wsS RX7 48 yX2_isHouseSign wtX2_isHouseSign) ++ ((wsV RX7 52 RX5 yX5_passYear wtX5_passYear) ++ ((wsV RX7 56 RX5 yX5_comeIn wtX5_comeIn) ++ ((wsV RX7 60 RX7 yX7_wed wtX7_wed) ++ ((wsV RX7 64 RX7 yX7_homeAct wtX7_homeAct) ++ []))))))))))
theorem imX7_tell_own : ∀ w ∈ ([.fieldLink RX7 35 "DriftKin$Pad" "count" "I", .fieldLink RX7 40 "DriftKin$Pad" "signs" "[I", .static yX8_at, .initialized RX8, .fieldLink RX7 12 "DriftKin$Years" "end" "LDriftKin$Shore;", .fieldLink RX7 22 "DriftKin$Years" "why" "I", .fieldLink RX7 18 "DriftKin$Years" "acts" "I"] : List Cond), w ∈ wtX7_tell := fun w h => List.mem_cons_of_mem _ (inl h)
theorem imX7_tell_u_X2 : ∀ w ∈ (u_ws RX2 TX2 2 : List Cond), w ∈ wtX7_tell := fun w h => List.mem_cons_of_mem _ (inr (inl h))
theorem imX7_tell_u_X7 : ∀ w ∈ (u_ws RX7 TX7 4 : List Cond), w ∈ wtX7_tell := fun w h => List.mem_cons_of_mem _ (inr (inr (inl h)))
theorem imX7_tell_c_X7_begin : ∀ w ∈ (wsV RX7 32 RX7 yX7_begin wtX7_begin : List Cond), w ∈ wtX7_tell := fun w h => List.mem_cons_of_mem _ (inr (inr (inr (inl h))))
theorem imX7_tell_c_X8_at : ∀ w ∈ (wtX8_at : List Cond), w ∈ wtX7_tell := fun w h => List.mem_cons_of_mem _ (inr (inr (inr (inr (inl h)))))
theorem imX7_tell_c_X2_isHouseSign : ∀ w ∈ (va_wsS RX7 48 yX2_isHouseSign wtX2_isHouseSign : List Cond), w ∈ wtX7_tell := fun w h => List.mem_cons_of_mem _ (inr (inr (inr (inr (inr (inl h))))))
theorem imX7_tell_c_X5_passYear : ∀ w ∈ (wsV RX7 52 RX5 yX5_passYear wtX5_passYear : List Cond), w ∈ wtX7_tell := fun w h => List.mem_cons_of_mem _ (inr (inr (inr (inr (inr (inr (inl h)))))))
theorem imX7_tell_c_X5_comeIn : ∀ w ∈ (wsV RX7 56 RX5 yX5_comeIn wtX5_comeIn : List Cond), w ∈ wtX7_tell := fun w h => List.mem_cons_of_mem _ (inr (inr (inr (inr (inr (inr (inr (inl h))))))))
theorem imX7_tell_c_X7_wed : ∀ w ∈ (wsV RX7 60 RX7 yX7_wed wtX7_wed : List Cond), w ∈ wtX7_tell := fun w h => List.mem_cons_of_mem _ (inr (inr (inr (inr (inr (inr (inr (inr (inl h)))))))))
theorem imX7_tell_c_X7_homeAct : ∀ w ∈ (wsV RX7 64 RX7 yX7_homeAct wtX7_homeAct : List Cond), w ∈ wtX7_tell := fun w h => List.mem_cons_of_mem _ (inr (inr (inr (inr (inr (inr (inr (inr (inr (inl h))))))))))
theorem gdX7_tell : ∀ w ∈ wtX7_tell, Gd w := gdc rfl (gda (gdl (by decide +kernel)) (gda (gdu _ _ _) (gda (gdu _ _ _) (gda (gda (gdl (by decide +kernel)) gdX7_begin) (gda gdX8_at (gda (gda (gdl (by decide +kernel)) gdX2_isHouseSign) (gda (gda (gdl (by decide +kernel)) gdX5_passYear) (gda (gda (gdl (by decide +kernel)) gdX5_comeIn) (gda (gda (gdl (by decide +kernel)) gdX7_wed) (gda (gda (gdl (by decide +kernel)) gdX7_homeAct) gdn))))))))))
theorem gcX7_tell_X7_begin : GoodIn wtX7_tell (wsV RX7 32 RX7 yX7_begin wtX7_begin) := fun w h => ⟨imX7_tell_c_X7_begin w h, (gda (gdl (by decide +kernel)) gdX7_begin) w h⟩
theorem gcX7_tell_X8_at : GoodIn wtX7_tell (wtX8_at) := fun w h => ⟨imX7_tell_c_X8_at w h, gdX8_at w h⟩
theorem gcX7_tell_X2_isHouseSign : GoodIn wtX7_tell (va_wsS RX7 48 yX2_isHouseSign wtX2_isHouseSign) := fun w h => ⟨imX7_tell_c_X2_isHouseSign w h, (gda (gdl (by decide +kernel)) gdX2_isHouseSign) w h⟩
theorem gcX7_tell_X5_passYear : GoodIn wtX7_tell (wsV RX7 52 RX5 yX5_passYear wtX5_passYear) := fun w h => ⟨imX7_tell_c_X5_passYear w h, (gda (gdl (by decide +kernel)) gdX5_passYear) w h⟩
theorem gcX7_tell_X5_comeIn : GoodIn wtX7_tell (wsV RX7 56 RX5 yX5_comeIn wtX5_comeIn) := fun w h => ⟨imX7_tell_c_X5_comeIn w h, (gda (gdl (by decide +kernel)) gdX5_comeIn) w h⟩
theorem gcX7_tell_X7_wed : GoodIn wtX7_tell (wsV RX7 60 RX7 yX7_wed wtX7_wed) := fun w h => ⟨imX7_tell_c_X7_wed w h, (gda (gdl (by decide +kernel)) gdX7_wed) w h⟩
theorem gcX7_tell_X7_homeAct : GoodIn wtX7_tell (wsV RX7 64 RX7 yX7_homeAct wtX7_homeAct) := fun w h => ⟨imX7_tell_c_X7_homeAct w h, (gda (gdl (by decide +kernel)) gdX7_homeAct) w h⟩
def fX7_tell_151 (k10 : Int32 → Int32 → Int32 → Int32 → (Nat → Int32) → (Nat → Int32) → (Nat → Int32) → (Nat → Int32) → Int32 → Int32 → Option (Int32 × Int32 × Int32 × Int32 × (Nat → Int32) × (Nat → Int32) × (Nat → Int32) × (Nat → Int32) × (Nat → Int32) × (Nat → Int32) × (Nat → Int32) × (Nat → Int32) × (Nat → Int32) × (Nat → Int32) × Int32 × (Nat → Int32) × (Nat → Int32) × (Nat → Int32))) (v_acts : Int32) (v_why : Int32) (v_weddings : Int32) (v_year : Int32) (v_wreck : Nat → Int32) (v_wood : Nat → Int32) (v_length : Nat → Int32) (v_left : Nat → Int32) (v_right : Nat → Int32) (v_place : Nat → Int32) (v_rings : Nat → Int32) (v_piece : Nat → Int32) (v_partner : Nat → Int32) (v_children : Nat → Int32) (v_count : Int32) (v_house : Nat → Int32) (v_reach : Nat → Int32) (v_sounded : Nat → Int32) (v_count2 : Int32) (v_signs : Nat → Int32) (x3 : Int32) (x4 : Int32) : Option (Int32 × Int32 × Int32 × Int32 × (Nat → Int32) × (Nat → Int32) × (Nat → Int32) × (Nat → Int32) × (Nat → Int32) × (Nat → Int32) × (Nat → Int32) × (Nat → Int32) × (Nat → Int32) × (Nat → Int32) × Int32 × (Nat → Int32) × (Nat → Int32) × (Nat → Int32)) :=
  if v_why = (0 : Int32) then
    k10 (v_acts + (1 : Int32)) v_why v_weddings v_year v_place v_piece v_partner v_children x3 (x4 + (1 : Int32))
  else
    some (v_acts, v_why, v_weddings, v_year, v_wreck, v_wood, v_length, v_left, v_right, v_place, v_rings, v_piece, v_partner, v_children, v_count, v_house, v_reach, v_sounded)
def fX7_tell_10 (v_wreck : Nat → Int32) (v_wood : Nat → Int32) (v_length : Nat → Int32) (v_left : Nat → Int32) (v_right : Nat → Int32) (v_rings : Nat → Int32) (v_count : Int32) (v_house : Nat → Int32) (v_reach : Nat → Int32) (v_sounded : Nat → Int32) (v_count2 : Int32) (v_signs : Nat → Int32) : Nat → Int32 → Int32 → Int32 → Int32 → (Nat → Int32) → (Nat → Int32) → (Nat → Int32) → (Nat → Int32) → Int32 → Int32 → Option (Int32 × Int32 × Int32 × Int32 × (Nat → Int32) × (Nat → Int32) × (Nat → Int32) × (Nat → Int32) × (Nat → Int32) × (Nat → Int32) × (Nat → Int32) × (Nat → Int32) × (Nat → Int32) × (Nat → Int32) × Int32 × (Nat → Int32) × (Nat → Int32) × (Nat → Int32))
  | 0, _, _, _, _, _, _, _, _, _, _ => none
  | n + 1, v_acts, v_why, v_weddings, v_year, v_place, v_piece, v_partner, v_children, x3, x4 =>
    if (60 : Int32) ≤ x4 then
      some (v_acts, v_why, v_weddings, v_year, v_wreck, v_wood, v_length, v_left, v_right, v_place, v_rings, v_piece, v_partner, v_children, v_count, v_house, v_reach, v_sounded)
    else
      if v_count2 ≤ x3 then
        some (v_acts, v_why, v_weddings, v_year, v_wreck, v_wood, v_length, v_left, v_right, v_place, v_rings, v_piece, v_partner, v_children, v_count, v_house, v_reach, v_sounded)
      else
        (fX8_at 60 v_signs x3).bind (fun r2003 =>
          (fX8_at 60 v_signs (x3 + (1 : Int32))).bind (fun r2004 =>
            (fX2_isHouseSign r2003).bind (fun r2005 =>
              if r2005 = (0 : Int32) then
                if r2003 = (46 : Int32) then
                  (fX5_passYear v_year v_partner v_children).bind (fun r2013 =>
                    fX7_tell_151 (fun y0 y1 y2 y3 y4 y5 y6 y7 y8 y9 => fX7_tell_10 v_wreck v_wood v_length v_left v_right v_rings v_count v_house v_reach v_sounded v_count2 v_signs n y0 y1 y2 y3 y4 y5 y6 y7 y8 y9) v_acts r2013.1 v_weddings r2013.2.1 v_wreck v_wood v_length v_left v_right v_place v_rings v_piece v_partner r2013.2.2 v_count v_house v_reach v_sounded v_count2 v_signs (x3 + (1 : Int32)) x4)
                else
                  (fX5_comeIn v_place (r2003 - (48 : Int32))).bind (fun r2012 =>
                    fX7_tell_151 (fun y0 y1 y2 y3 y4 y5 y6 y7 y8 y9 => fX7_tell_10 v_wreck v_wood v_length v_left v_right v_rings v_count v_house v_reach v_sounded v_count2 v_signs n y0 y1 y2 y3 y4 y5 y6 y7 y8 y9) v_acts r2012.1 v_weddings v_year v_wreck v_wood v_length v_left v_right r2012.2 v_rings v_piece v_partner v_children v_count v_house v_reach v_sounded v_count2 v_signs (x3 + (1 : Int32)) x4)
              else
                if r2004 = (43 : Int32) then
                  (fX8_at 60 v_signs (x3 + (2 : Int32))).bind (fun r2009 =>
                    (fX7_wed v_weddings v_wreck v_piece v_partner (r2003 - (65 : Int32)) (r2009 - (65 : Int32))).bind (fun r2010 =>
                      fX7_tell_151 (fun y0 y1 y2 y3 y4 y5 y6 y7 y8 y9 => fX7_tell_10 v_wreck v_wood v_length v_left v_right v_rings v_count v_house v_reach v_sounded v_count2 v_signs n y0 y1 y2 y3 y4 y5 y6 y7 y8 y9) v_acts r2010.1 r2010.2.1 v_year v_wreck v_wood v_length v_left v_right v_place v_rings v_piece r2010.2.2 v_children v_count v_house v_reach v_sounded v_count2 v_signs (x3 + (3 : Int32)) x4))
                else
                  (fX7_homeAct v_place v_piece v_partner (r2003 - (65 : Int32)) r2004).bind (fun r2008 =>
                    fX7_tell_151 (fun y0 y1 y2 y3 y4 y5 y6 y7 y8 y9 => fX7_tell_10 v_wreck v_wood v_length v_left v_right v_rings v_count v_house v_reach v_sounded v_count2 v_signs n y0 y1 y2 y3 y4 y5 y6 y7 y8 y9) v_acts r2008.1 v_weddings v_year v_wreck v_wood v_length v_left v_right r2008.2.1 v_rings r2008.2.2.1 r2008.2.2.2 v_children v_count v_house v_reach v_sounded v_count2 v_signs (x3 + (2 : Int32)) x4))))
def fX7_tell (v_acts : Int32) (v_why : Int32) (v_weddings : Int32) (v_year : Int32) (v_wreck : Nat → Int32) (v_wood : Nat → Int32) (v_length : Nat → Int32) (v_left : Nat → Int32) (v_right : Nat → Int32) (v_place : Nat → Int32) (v_rings : Nat → Int32) (v_piece : Nat → Int32) (v_partner : Nat → Int32) (v_children : Nat → Int32) (v_count : Int32) (v_house : Nat → Int32) (v_reach : Nat → Int32) (v_sounded : Nat → Int32) (v_count2 : Int32) (v_signs : Nat → Int32) (v_year2 : Int32) (v_wreck2 : Nat → Int32) (v_wood2 : Nat → Int32) (v_length2 : Nat → Int32) (v_left2 : Nat → Int32) (v_right2 : Nat → Int32) (v_place2 : Nat → Int32) (v_rings2 : Nat → Int32) (v_piece2 : Nat → Int32) (v_partner2 : Nat → Int32) (v_children2 : Nat → Int32) (v_count3 : Int32) (v_house2 : Nat → Int32) (v_reach2 : Nat → Int32) (v_sounded2 : Nat → Int32) : Option (Int32 × Int32 × Int32 × Int32 × (Nat → Int32) × (Nat → Int32) × (Nat → Int32) × (Nat → Int32) × (Nat → Int32) × (Nat → Int32) × (Nat → Int32) × (Nat → Int32) × (Nat → Int32) × (Nat → Int32) × Int32 × (Nat → Int32) × (Nat → Int32) × (Nat → Int32)) :=
  (fX7_begin v_acts v_why v_weddings v_year v_wreck v_wood v_length v_left v_right v_place v_rings v_piece v_partner v_children v_count v_house v_reach v_sounded v_year2 v_wreck2 v_wood2 v_length2 v_left2 v_right2 v_place2 v_rings2 v_piece2 v_partner2 v_children2 v_count3 v_house2 v_reach2 v_sounded2).bind (fun r1 =>
    fX7_tell_10 r1.2.2.2.2.1 r1.2.2.2.2.2.1 r1.2.2.2.2.2.2.1 r1.2.2.2.2.2.2.2.1 r1.2.2.2.2.2.2.2.2.1 r1.2.2.2.2.2.2.2.2.2.2.1 r1.2.2.2.2.2.2.2.2.2.2.2.2.2.2.1 r1.2.2.2.2.2.2.2.2.2.2.2.2.2.2.2.1 r1.2.2.2.2.2.2.2.2.2.2.2.2.2.2.2.2.1 r1.2.2.2.2.2.2.2.2.2.2.2.2.2.2.2.2.2 v_count2 v_signs 2000 r1.1 r1.2.1 r1.2.2.1 r1.2.2.2.1 r1.2.2.2.2.2.2.2.2.2.1 r1.2.2.2.2.2.2.2.2.2.2.2.1 r1.2.2.2.2.2.2.2.2.2.2.2.2.1 r1.2.2.2.2.2.2.2.2.2.2.2.2.2.1 (0 : Int32) (0 : Int32))
def wdX7_tell (cI cZ : ClassId) (q0 : Nat) (q1 : Nat) (q2 : Nat) (q3 : Nat) (q4 : Nat) (q5 : Nat) (q6 : Nat) (q7 : Nat) (q8 : Nat) (q9 : Nat) (q10 : Nat) (q11 : Nat) (q12 : Nat) (q13 : Nat) (q14 : Nat) (q15 : Nat) (q16 : Nat) (q17 : Nat) (q18 : Nat) (q19 : Nat) (q20 : Nat) (q21 : Nat) (q22 : Nat) (q23 : Nat) (q24 : Nat) (q25 : Nat) (q26 : Nat) (q27 : Nat) (q28 : Nat) (q29 : Nat) (q30 : Nat) (q31 : Nat) (q32 : Nat) (q33 : Nat) (q34 : Nat) (q35 : Nat) (q36 : Nat)  (v_acts : Int32) (v_why : Int32) (v_weddings : Int32) (v_year : Int32) (v_wreck : Nat → Int32) (v_wood : Nat → Int32) (v_length : Nat → Int32) (v_left : Nat → Int32) (v_right : Nat → Int32) (v_place : Nat → Int32) (v_rings : Nat → Int32) (v_piece : Nat → Int32) (v_partner : Nat → Int32) (v_children : Nat → Int32) (v_count : Int32) (v_house : Nat → Int32) (v_reach : Nat → Int32) (v_sounded : Nat → Int32) (v_count2 : Int32) (v_signs : Nat → Int32) (v_year2 : Int32) (v_wreck2 : Nat → Int32) (v_wood2 : Nat → Int32) (v_length2 : Nat → Int32) (v_left2 : Nat → Int32) (v_right2 : Nat → Int32) (v_place2 : Nat → Int32) (v_rings2 : Nat → Int32) (v_piece2 : Nat → Int32) (v_partner2 : Nat → Int32) (v_children2 : Nat → Int32) (v_count3 : Int32) (v_house2 : Nat → Int32) (v_reach2 : Nat → Int32) (v_sounded2 : Nat → Int32) : va_W := [(q0, .inr (7, [.ref q1, .int v_acts, .int v_why, .int v_weddings])), (q1, .inr (5, [.ref q2, .ref q10, .ref q14, .int v_year])), (q2, .inr (3, [.ref q3, .ref q4, .ref q5, .ref q6, .ref q7, .ref q8, .ref q9])), (q3, .inl (cI, 10, .inl v_wreck)), (q4, .inl (cI, 10, .inl v_wood)), (q5, .inl (cI, 10, .inl v_length)), (q6, .inl (cI, 10, .inl v_left)), (q7, .inl (cI, 10, .inl v_right)), (q8, .inl (cI, 10, .inl v_place)), (q9, .inl (cI, 10, .inl v_rings)), (q10, .inr (0, [.ref q11, .ref q12, .ref q13])), (q11, .inl (cI, 8, .inl v_piece)), (q12, .inl (cI, 8, .inl v_partner)), (q13, .inl (cI, 8, .inl v_children)), (q14, .inr (6, [.ref q15, .ref q16, .ref q17, .int v_count])), (q15, .inl (cI, 8, .inl v_house)), (q16, .inl (cI, 8, .inl v_reach)), (q17, .inl (cI, 8, .inl v_sounded)), (q18, .inr (2, [.ref q19, .int v_count2])), (q19, .inl (cI, 60, .inl v_signs)), (q20, .inr (5, [.ref q21, .ref q29, .ref q33, .int v_year2])), (q21, .inr (3, [.ref q22, .ref q23, .ref q24, .ref q25, .ref q26, .ref q27, .ref q28])), (q22, .inl (cI, 10, .inl v_wreck2)), (q23, .inl (cI, 10, .inl v_wood2)), (q24, .inl (cI, 10, .inl v_length2)), (q25, .inl (cI, 10, .inl v_left2)), (q26, .inl (cI, 10, .inl v_right2)), (q27, .inl (cI, 10, .inl v_place2)), (q28, .inl (cI, 10, .inl v_rings2)), (q29, .inr (0, [.ref q30, .ref q31, .ref q32])), (q30, .inl (cI, 8, .inl v_piece2)), (q31, .inl (cI, 8, .inl v_partner2)), (q32, .inl (cI, 8, .inl v_children2)), (q33, .inr (6, [.ref q34, .ref q35, .ref q36, .int v_count3])), (q34, .inl (cI, 8, .inl v_house2)), (q35, .inl (cI, 8, .inl v_reach2)), (q36, .inl (cI, 8, .inl v_sounded2))]
abbrev rmX7_tell : Jvm.Room := { frames := 4, cells := 0, slots := 0, locals := 87 }
theorem hyX7_tell : yX7_tell.cls ≠ "java/lang/invoke/MethodHandle" ∧ yX7_tell.cls ≠ "java/lang/invoke/VarHandle" ∧ (parseMethodDescriptor yX7_tell.desc).map (fun d => d.parameters.length) = some 2 := by decide +kernel
set_option maxHeartbeats 4000000 in
set_option maxRecDepth 100000 in
theorem mX7_tell (l : Launch) (D : va_G) (cI cZ : ClassId) (q0 : Nat) (q1 : Nat) (q2 : Nat) (q3 : Nat) (q4 : Nat) (q5 : Nat) (q6 : Nat) (q7 : Nat) (q8 : Nat) (q9 : Nat) (q10 : Nat) (q11 : Nat) (q12 : Nat) (q13 : Nat) (q14 : Nat) (q15 : Nat) (q16 : Nat) (q17 : Nat) (q18 : Nat) (q19 : Nat) (q20 : Nat) (q21 : Nat) (q22 : Nat) (q23 : Nat) (q24 : Nat) (q25 : Nat) (q26 : Nat) (q27 : Nat) (q28 : Nat) (q29 : Nat) (q30 : Nat) (q31 : Nat) (q32 : Nat) (q33 : Nat) (q34 : Nat) (q35 : Nat) (q36 : Nat) (v_acts : Int32) (v_why : Int32) (v_weddings : Int32) (v_year : Int32) (v_wreck : Nat → Int32) (v_wood : Nat → Int32) (v_length : Nat → Int32) (v_left : Nat → Int32) (v_right : Nat → Int32) (v_place : Nat → Int32) (v_rings : Nat → Int32) (v_piece : Nat → Int32) (v_partner : Nat → Int32) (v_children : Nat → Int32) (v_count : Int32) (v_house : Nat → Int32) (v_reach : Nat → Int32) (v_sounded : Nat → Int32) (v_count2 : Int32) (v_signs : Nat → Int32) (v_year2 : Int32) (v_wreck2 : Nat → Int32) (v_wood2 : Nat → Int32) (v_length2 : Nat → Int32) (v_left2 : Nat → Int32) (v_right2 : Nat → Int32) (v_place2 : Nat → Int32) (v_rings2 : Nat → Int32) (v_piece2 : Nat → Int32) (v_partner2 : Nat → Int32) (v_children2 : Nat → Int32) (v_count3 : Int32) (v_house2 : Nat → Int32) (v_reach2 : Nat → Int32) (v_sounded2 : Nat → Int32) (z : Int32 × Int32 × Int32 × Int32 × (Nat → Int32) × (Nat → Int32) × (Nat → Int32) × (Nat → Int32) × (Nat → Int32) × (Nat → Int32) × (Nat → Int32) × (Nat → Int32) × (Nat → Int32) × (Nat → Int32) × Int32 × (Nat → Int32) × (Nat → Int32) × (Nat → Int32)) (hF : fX7_tell v_acts v_why v_weddings v_year v_wreck v_wood v_length v_left v_right v_place v_rings v_piece v_partner v_children v_count v_house v_reach v_sounded v_count2 v_signs v_year2 v_wreck2 v_wood2 v_length2 v_left2 v_right2 v_place2 v_rings2 v_piece2 v_partner2 v_children2 v_count3 v_house2 v_reach2 v_sounded2 = some z) : mp l yX7_tell wtX7_tell rmX7_tell D cI cZ [.ref q0, .ref q18, .ref q20] (wdX7_tell cI cZ q0 q1 q2 q3 q4 q5 q6 q7 q8 q9 q10 q11 q12 q13 q14 q15 q16 q17 q18 q19 q20 q21 q22 q23 q24 q25 q26 q27 q28 q29 q30 q31 q32 q33 q34 q35 q36 v_acts v_why v_weddings v_year v_wreck v_wood v_length v_left v_right v_place v_rings v_piece v_partner v_children v_count v_house v_reach v_sounded v_count2 v_signs v_year2 v_wreck2 v_wood2 v_length2 v_left2 v_right2 v_place2 v_rings2 v_piece2 v_partner2 v_children2 v_count3 v_house2 v_reach2 v_sounded2) none (wdX7_tell cI cZ q0 q1 q2 q3 q4 q5 q6 q7 q8 q9 q10 q11 q12 q13 q14 q15 q16 q17 q18 q19 q20 q21 q22 q23 q24 q25 q26 q27 q28 q29 q30 q31 q32 q33 q34 q35 q36 z.1 z.2.1 z.2.2.1 z.2.2.2.1 z.2.2.2.2.1 z.2.2.2.2.2.1 z.2.2.2.2.2.2.1 z.2.2.2.2.2.2.2.1 z.2.2.2.2.2.2.2.2.1 z.2.2.2.2.2.2.2.2.2.1 z.2.2.2.2.2.2.2.2.2.2.1 z.2.2.2.2.2.2.2.2.2.2.2.1 z.2.2.2.2.2.2.2.2.2.2.2.2.1 z.2.2.2.2.2.2.2.2.2.2.2.2.2.1 z.2.2.2.2.2.2.2.2.2.2.2.2.2.2.1 z.2.2.2.2.2.2.2.2.2.2.2.2.2.2.2.1 z.2.2.2.2.2.2.2.2.2.2.2.2.2.2.2.2.1 z.2.2.2.2.2.2.2.2.2.2.2.2.2.2.2.2.2 v_count2 v_signs v_year2 v_wreck2 v_wood2 v_length2 v_left2 v_right2 v_place2 v_rings2 v_piece2 v_partner2 v_children2 v_count3 v_house2 v_reach2 v_sounded2) := by
  refine mp_v (lv0 := [(0, .ref q0), (1, .ref q18), (2, .ref q20)]) cX7_tell 7 (by decide) rfl (Nat.le_of_ble_eq_true rfl) rfl (fun E h hend0 => ?_)
  have hend : ∀ (z' : Int32 × Int32 × Int32 × Int32 × (Nat → Int32) × (Nat → Int32) × (Nat → Int32) × (Nat → Int32) × (Nat → Int32) × (Nat → Int32) × (Nat → Int32) × (Nat → Int32) × (Nat → Int32) × (Nat → Int32) × Int32 × (Nat → Int32) × (Nat → Int32) × (Nat → Int32)), some z' = some z → ∀ (pc : Nat) (lv : List (Nat × Value)), decode cX7_tell pc = .ok (.return_, 1) → G l D E 7 0 0 (wdX7_tell cI cZ q0 q1 q2 q3 q4 q5 q6 q7 q8 q9 q10 q11 q12 q13 q14 q15 q16 q17 q18 q19 q20 q21 q22 q23 q24 q25 q26 q27 q28 q29 q30 q31 q32 q33 q34 q35 q36 (z'.1) (z'.2.1) (z'.2.2.1) (z'.2.2.2.1) (z'.2.2.2.2.1) (z'.2.2.2.2.2.1) (z'.2.2.2.2.2.2.1) (z'.2.2.2.2.2.2.2.1) (z'.2.2.2.2.2.2.2.2.1) (z'.2.2.2.2.2.2.2.2.2.1) (z'.2.2.2.2.2.2.2.2.2.2.1) (z'.2.2.2.2.2.2.2.2.2.2.2.1) (z'.2.2.2.2.2.2.2.2.2.2.2.2.1) (z'.2.2.2.2.2.2.2.2.2.2.2.2.2.1) (z'.2.2.2.2.2.2.2.2.2.2.2.2.2.2.1) (z'.2.2.2.2.2.2.2.2.2.2.2.2.2.2.2.1) (z'.2.2.2.2.2.2.2.2.2.2.2.2.2.2.2.2.1) (z'.2.2.2.2.2.2.2.2.2.2.2.2.2.2.2.2.2) v_count2 v_signs v_year2 v_wreck2 v_wood2 v_length2 v_left2 v_right2 v_place2 v_rings2 v_piece2 v_partner2 v_children2 v_count3 v_house2 v_reach2 v_sounded2) pc lv [] := fun z' e => by cases e; exact hend0
  clear hend0
  have hL10 : ∀ (n10 : Nat) (v_acts : Int32) (v_why : Int32) (v_weddings : Int32) (v_year : Int32) (v_wreck : Nat → Int32) (v_wood : Nat → Int32) (v_length : Nat → Int32) (v_left : Nat → Int32) (v_right : Nat → Int32) (v_place : Nat → Int32) (v_rings : Nat → Int32) (v_piece : Nat → Int32) (v_partner : Nat → Int32) (v_children : Nat → Int32) (v_count : Int32) (v_house : Nat → Int32) (v_reach : Nat → Int32) (v_sounded : Nat → Int32) (x3 : Int32) (x4 : Int32), fX7_tell_10 v_wreck v_wood v_length v_left v_right v_rings v_count v_house v_reach v_sounded v_count2 v_signs n10 v_acts v_why v_weddings v_year v_place v_piece v_partner v_children x3 x4 = some z → G l D E 7 0 0 (wdX7_tell cI cZ q0 q1 q2 q3 q4 q5 q6 q7 q8 q9 q10 q11 q12 q13 q14 q15 q16 q17 q18 q19 q20 q21 q22 q23 q24 q25 q26 q27 q28 q29 q30 q31 q32 q33 q34 q35 q36 v_acts v_why v_weddings v_year v_wreck v_wood v_length v_left v_right v_place v_rings v_piece v_partner v_children v_count v_house v_reach v_sounded v_count2 v_signs v_year2 v_wreck2 v_wood2 v_length2 v_left2 v_right2 v_place2 v_rings2 v_piece2 v_partner2 v_children2 v_count3 v_house2 v_reach2 v_sounded2) 10 [(0, .ref q0), (1, .ref q18), (2, .ref q20), (3, .int x3), (4, .int x4)] [] := by
    intro n10
    induction n10 with
    | zero =>
      intro v_acts v_why v_weddings v_year v_wreck v_wood v_length v_left v_right v_place v_rings v_piece v_partner v_children v_count v_house v_reach v_sounded x3 x4 hF
      rw [fX7_tell_10] at hF
      cases hF
    | succ n10 ih10 =>
      have hL151 : ∀ (v_acts : Int32) (v_why : Int32) (v_weddings : Int32) (v_year : Int32) (v_wreck : Nat → Int32) (v_wood : Nat → Int32) (v_length : Nat → Int32) (v_left : Nat → Int32) (v_right : Nat → Int32) (v_place : Nat → Int32) (v_rings : Nat → Int32) (v_piece : Nat → Int32) (v_partner : Nat → Int32) (v_children : Nat → Int32) (v_count : Int32) (v_house : Nat → Int32) (v_reach : Nat → Int32) (v_sounded : Nat → Int32) (x3 : Int32) (x4 : Int32), fX7_tell_151 (fun y0 y1 y2 y3 y4 y5 y6 y7 y8 y9 => fX7_tell_10 v_wreck v_wood v_length v_left v_right v_rings v_count v_house v_reach v_sounded v_count2 v_signs n10 y0 y1 y2 y3 y4 y5 y6 y7 y8 y9) v_acts v_why v_weddings v_year v_wreck v_wood v_length v_left v_right v_place v_rings v_piece v_partner v_children v_count v_house v_reach v_sounded v_count2 v_signs x3 x4 = some z → G l D E 7 0 0 (wdX7_tell cI cZ q0 q1 q2 q3 q4 q5 q6 q7 q8 q9 q10 q11 q12 q13 q14 q15 q16 q17 q18 q19 q20 q21 q22 q23 q24 q25 q26 q27 q28 q29 q30 q31 q32 q33 q34 q35 q36 v_acts v_why v_weddings v_year v_wreck v_wood v_length v_left v_right v_place v_rings v_piece v_partner v_children v_count v_house v_reach v_sounded v_count2 v_signs v_year2 v_wreck2 v_wood2 v_length2 v_left2 v_right2 v_place2 v_rings2 v_piece2 v_partner2 v_children2 v_count3 v_house2 v_reach2 v_sounded2) 151 [(0, .ref q0), (1, .ref q18), (2, .ref q20), (3, .int x3), (4, .int x4)] [] := by
        intro v_acts v_why v_weddings v_year v_wreck v_wood v_length v_left v_right v_place v_rings v_piece v_partner v_children v_count v_house v_reach v_sounded x3 x4 hF
        rw [fX7_tell_151] at hF
        refine g_aload_n (np := 152) h 0 rfl rfl dX7_tell_151 rfl ?_
        refine g_get (np := 155) (T := TX7) h imX7_tell_u_X7 0 7 rfl rfl 2 (by decide) (imX7_tell_own _ (List.mem_of_getElem? (i := 5) rfl)) rfl dX7_tell_152 rfl ?_
        refine g_if_eq h hF dX7_tell_155 (np := 158) rfl (tg := 159) rfl (fun c1001 hF => ?_) (fun c1001 hF => ?_)
        · refine g_aload_n (np := 160) h 0 rfl rfl dX7_tell_159 rfl ?_
          refine g_dup (np := 161) h rfl dX7_tell_160 rfl ?_
          refine g_get (np := 164) (T := TX7) h imX7_tell_u_X7 0 7 rfl rfl 1 (by decide) (imX7_tell_own _ (List.mem_of_getElem? (i := 6) rfl)) rfl dX7_tell_161 rfl ?_
          refine g_iconst (np := 165) (v := (1 : Int32)) h (by decide) dX7_tell_164 rfl ?_
          refine g_iadd (np := 166) h dX7_tell_165 rfl ?_
          refine g_put (np := 169) (T := TX7) (Wd' := (wdX7_tell cI cZ q0 q1 q2 q3 q4 q5 q6 q7 q8 q9 q10 q11 q12 q13 q14 q15 q16 q17 q18 q19 q20 q21 q22 q23 q24 q25 q26 q27 q28 q29 q30 q31 q32 q33 q34 q35 q36 (v_acts + (1 : Int32)) v_why v_weddings v_year v_wreck v_wood v_length v_left v_right v_place v_rings v_piece v_partner v_children v_count v_house v_reach v_sounded v_count2 v_signs v_year2 v_wreck2 v_wood2 v_length2 v_left2 v_right2 v_place2 v_rings2 v_piece2 v_partner2 v_children2 v_count3 v_house2 v_reach2 v_sounded2)) h imX7_tell_u_X7 tyX7_ok nmX7 0 7 rfl rfl 1 (by decide) (imX7_tell_own _ (List.mem_of_getElem? (i := 6) rfl)) rfl rfl rfl (Nat.le_of_ble_eq_true rfl) rfl dX7_tell_166 rfl ?_
          refine g_iinc (np := 172) (v := (x4 + (1 : Int32))) (lv' := [(4, .int (x4 + (1 : Int32))), (0, .ref q0), (1, .ref q18), (2, .ref q20), (3, .int x3)]) h 4 rfl rfl (by decide) rfl dX7_tell_169 rfl ?_
          refine g_goto h dX7_tell_172 (np := 10) rfl ?_
          refine g_lv [1, 2, 3, 4, 0] rfl ?_
          exact ih10 (v_acts + (1 : Int32)) v_why v_weddings v_year v_wreck v_wood v_length v_left v_right v_place v_rings v_piece v_partner v_children v_count v_house v_reach v_sounded x3 (x4 + (1 : Int32)) hF
        · exact hend _ hF _ _ dX7_tell_158
      intro v_acts v_why v_weddings v_year v_wreck v_wood v_length v_left v_right v_place v_rings v_piece v_partner v_children v_count v_house v_reach v_sounded x3 x4 hF
      rw [fX7_tell_10] at hF
      refine g_iload (np := 12) h 4 rfl dX7_tell_10 rfl ?_
      refine g_bipush (np := 14) (v := (60 : Int32)) h (by decide) dX7_tell_12 rfl ?_
      refine g_icmp_ge h hF dX7_tell_14 (np := 17) rfl (tg := 175) rfl (fun c2001 hF => ?_) (fun c2001 hF => ?_)
      · exact hend _ hF _ _ dX7_tell_175
      · refine g_iload_n (np := 18) h 3 rfl rfl dX7_tell_17 rfl ?_
        refine g_aload_n (np := 19) h 1 rfl rfl dX7_tell_18 rfl ?_
        refine g_get (np := 22) (T := TX2) h imX7_tell_u_X2 18 2 rfl rfl 1 (by decide) (imX7_tell_own _ (List.mem_of_getElem? (i := 0) rfl)) rfl dX7_tell_19 rfl ?_
        refine g_icmp_ge h hF dX7_tell_22 (np := 25) rfl (tg := 175) rfl (fun c2002 hF => ?_) (fun c2002 hF => ?_)
        · exact hend _ hF _ _ dX7_tell_175
        · refine g_aload_n (np := 26) h 1 rfl rfl dX7_tell_25 rfl ?_
          refine g_get (np := 29) (T := TX2) h imX7_tell_u_X2 18 2 rfl rfl 0 (by decide) (imX7_tell_own _ (List.mem_of_getElem? (i := 1) rfl)) rfl dX7_tell_26 rfl ?_
          refine g_iload_n (np := 30) h 3 rfl rfl dX7_tell_29 rfl ?_
          obtain ⟨r2003, hr2003, hF⟩ := Option.bind_eq_some_iff.mp hF
          refine g_callN (np := 33) (Wd' := (wdX7_tell cI cZ q0 q1 q2 q3 q4 q5 q6 q7 q8 q9 q10 q11 q12 q13 q14 q15 q16 q17 q18 q19 q20 q21 q22 q23 q24 q25 q26 q27 q28 q29 q30 q31 q32 q33 q34 q35 q36 v_acts v_why v_weddings v_year v_wreck v_wood v_length v_left v_right v_place v_rings v_piece v_partner v_children v_count v_house v_reach v_sounded v_count2 v_signs v_year2 v_wreck2 v_wood2 v_length2 v_left2 v_right2 v_place2 v_rings2 v_piece2 v_partner2 v_children2 v_count3 v_house2 v_reach2 v_sounded2)) (As := [.ref q19, .int x3]) h (mX8_at l D cI cZ q19 60 v_signs x3 r2003 hr2003) gcX7_tell_X8_at rfl ⟨rfl, rfl⟩ (List.mem_of_getElem? (i := 15) rfl) (imX7_tell_own _ (List.mem_of_getElem? (i := 3) rfl)) (imX7_tell_own _ (List.mem_of_getElem? (i := 2) rfl)) hyX8_at rfl rfl rfl rfl ⟨Nat.zero_le _, Nat.zero_le _⟩ [19] [0, 1, 2, 3, 4, 5, 6, 7, 8, 9, 10, 11, 12, 13, 14, 15, 16, 17, 18, 20, 21, 22, 23, 24, 25, 26, 27, 28, 29, 30, 31, 32, 33, 34, 35, 36] (N := 37) (by decide +kernel) rfl rfl rfl rfl rfl dX7_tell_30 rfl ?_
          refine g_istore (np := 35) (lv' := [(5, .int r2003), (0, .ref q0), (1, .ref q18), (2, .ref q20), (3, .int x3), (4, .int x4)]) h (by decide) rfl dX7_tell_33 rfl ?_
          refine g_aload_n (np := 36) h 2 rfl rfl dX7_tell_35 rfl ?_
          refine g_get (np := 39) (T := TX2) h imX7_tell_u_X2 18 2 rfl rfl 0 (by decide) (imX7_tell_own _ (List.mem_of_getElem? (i := 1) rfl)) rfl dX7_tell_36 rfl ?_
          refine g_iload_n (np := 40) h 4 rfl rfl dX7_tell_39 rfl ?_
          refine g_iconst (np := 41) (v := (1 : Int32)) h (by decide) dX7_tell_40 rfl ?_
          refine g_iadd (np := 42) h dX7_tell_41 rfl ?_
          obtain ⟨r2004, hr2004, hF⟩ := Option.bind_eq_some_iff.mp hF
          refine g_callN (np := 45) (Wd' := (wdX7_tell cI cZ q0 q1 q2 q3 q4 q5 q6 q7 q8 q9 q10 q11 q12 q13 q14 q15 q16 q17 q18 q19 q20 q21 q22 q23 q24 q25 q26 q27 q28 q29 q30 q31 q32 q33 q34 q35 q36 v_acts v_why v_weddings v_year v_wreck v_wood v_length v_left v_right v_place v_rings v_piece v_partner v_children v_count v_house v_reach v_sounded v_count2 v_signs v_year2 v_wreck2 v_wood2 v_length2 v_left2 v_right2 v_place2 v_rings2 v_piece2 v_partner2 v_children2 v_count3 v_house2 v_reach2 v_sounded2)) (As := [.ref q19, .int (x3 + (1 : Int32))]) h (mX8_at l D cI cZ q19 60 v_signs (x3 + (1 : Int32)) r2004 hr2004) gcX7_tell_X8_at rfl ⟨rfl, rfl⟩ (List.mem_of_getElem? (i := 15) rfl) (imX7_tell_own _ (List.mem_of_getElem? (i := 3) rfl)) (imX7_tell_own _ (List.mem_of_getElem? (i := 2) rfl)) hyX8_at rfl rfl rfl rfl ⟨Nat.zero_le _, Nat.zero_le _⟩ [19] [0, 1, 2, 3, 4, 5, 6, 7, 8, 9, 10, 11, 12, 13, 14, 15, 16, 17, 18, 20, 21, 22, 23, 24, 25, 26, 27, 28, 29, 30, 31, 32, 33, 34, 35, 36] (N := 37) (by decide +kernel) rfl rfl rfl rfl rfl dX7_tell_42 rfl ?_
          refine g_istore (np := 47) (lv' := [(6, .int r2004), (5, .int r2003), (0, .ref q0), (1, .ref q18), (2, .ref q20), (3, .int x3), (4, .int x4)]) h (by decide) rfl dX7_tell_45 rfl ?_
          refine g_iload (np := 49) h 1 rfl dX7_tell_47 rfl ?_
          obtain ⟨r2005, hr2005, hF⟩ := Option.bind_eq_some_iff.mp hF
          refine g_callS (np := 52) (Wd' := (wdX7_tell cI cZ q0 q1 q2 q3 q4 q5 q6 q7 q8 q9 q10 q11 q12 q13 q14 q15 q16 q17 q18 q19 q20 q21 q22 q23 q24 q25 q26 q27 q28 q29 q30 q31 q32 q33 q34 q35 q36 v_acts v_why v_weddings v_year v_wreck v_wood v_length v_left v_right v_place v_rings v_piece v_partner v_children v_count v_house v_reach v_sounded v_count2 v_signs v_year2 v_wreck2 v_wood2 v_length2 v_left2 v_right2 v_place2 v_rings2 v_piece2 v_partner2 v_children2 v_count3 v_house2 v_reach2 v_sounded2)) (As := [.int r2003]) h (mX2_isHouseSign l D cI cZ r2003 r2005 hr2005) gcX7_tell_X2_isHouseSign rfl ⟨rfl, rfl⟩ hyX2_isHouseSign rfl rfl rfl rfl ⟨Nat.zero_le _, Nat.zero_le _⟩ [] [0, 1, 2, 3, 4, 5, 6, 7, 8, 9, 10, 11, 12, 13, 14, 15, 16, 17, 18, 19, 20, 21, 22, 23, 24, 25, 26, 27, 28, 29, 30, 31, 32, 33, 34, 35, 36] (N := 37) (by decide +kernel) rfl rfl rfl rfl rfl dX7_tell_49 rfl ?_
          refine g_if_ne h hF dX7_tell_52 (np := 55) rfl (tg := 94) rfl (fun c2006 hF => ?_) (fun c2006 hF => ?_)
          · refine g_iload (np := 96) h 0 rfl dX7_tell_94 rfl ?_
            refine g_bipush (np := 98) (v := (43 : Int32)) h (by decide) dX7_tell_96 rfl ?_
            refine g_icmp_ne h hF dX7_tell_98 (np := 101) rfl (tg := 133) rfl (fun c2007 hF => ?_) (fun c2007 hF => ?_)
            · refine g_aload_n (np := 134) h 2 rfl rfl dX7_tell_133 rfl ?_
              refine g_aload_n (np := 135) h 2 rfl rfl dX7_tell_134 rfl ?_
              refine g_iload (np := 137) h 1 rfl dX7_tell_135 rfl ?_
              refine g_bipush (np := 139) (v := (65 : Int32)) h (by decide) dX7_tell_137 rfl ?_
              refine g_isub (np := 140) h dX7_tell_139 rfl ?_
              refine g_iload (np := 142) h 0 rfl dX7_tell_140 rfl ?_
              obtain ⟨r2008, hr2008, hF⟩ := Option.bind_eq_some_iff.mp hF
              refine g_callV (np := 145) (Wd' := (wdX7_tell cI cZ q0 q1 q2 q3 q4 q5 q6 q7 q8 q9 q10 q11 q12 q13 q14 q15 q16 q17 q18 q19 q20 q21 q22 q23 q24 q25 q26 q27 q28 q29 q30 q31 q32 q33 q34 q35 q36 v_acts v_why v_weddings v_year v_wreck v_wood v_length v_left v_right r2008.2.1 v_rings r2008.2.2.1 r2008.2.2.2 v_children v_count v_house v_reach v_sounded v_count2 v_signs v_year2 v_wreck2 v_wood2 v_length2 v_left2 v_right2 v_place2 v_rings2 v_piece2 v_partner2 v_children2 v_count3 v_house2 v_reach2 v_sounded2)) (As := [.int (r2003 - (65 : Int32)), .int r2004]) h (mX7_homeAct l D cI cZ q0 q1 q2 q8 q10 q11 q12 q14 q3 q4 q5 q6 q7 q9 q13 v_place v_piece v_partner v_acts v_why v_weddings v_year (r2003 - (65 : Int32)) r2004 r2008 hr2008) gcX7_tell_X7_homeAct rfl ⟨rfl, rfl⟩ ⟨rfl, hyX7_homeAct⟩ rfl 7 0 rfl rfl rfl rfl rfl rfl ⟨Nat.zero_le _, Nat.zero_le _⟩ [0, 1, 2, 8, 10, 11, 12] [3, 4, 5, 6, 7, 9, 13, 14, 15, 16, 17, 18, 19, 20, 21, 22, 23, 24, 25, 26, 27, 28, 29, 30, 31, 32, 33, 34, 35, 36] (N := 37) (by decide +kernel) rfl rfl rfl rfl rfl dX7_tell_142 rfl ?_
              refine g_put (np := 148) (T := TX7) (Wd' := (wdX7_tell cI cZ q0 q1 q2 q3 q4 q5 q6 q7 q8 q9 q10 q11 q12 q13 q14 q15 q16 q17 q18 q19 q20 q21 q22 q23 q24 q25 q26 q27 q28 q29 q30 q31 q32 q33 q34 q35 q36 v_acts r2008.1 v_weddings v_year v_wreck v_wood v_length v_left v_right r2008.2.1 v_rings r2008.2.2.1 r2008.2.2.2 v_children v_count v_house v_reach v_sounded v_count2 v_signs v_year2 v_wreck2 v_wood2 v_length2 v_left2 v_right2 v_place2 v_rings2 v_piece2 v_partner2 v_children2 v_count3 v_house2 v_reach2 v_sounded2)) h imX7_tell_u_X7 tyX7_ok nmX7 0 7 rfl rfl 2 (by decide) (imX7_tell_own _ (List.mem_of_getElem? (i := 5) rfl)) rfl rfl rfl (Nat.le_of_ble_eq_true rfl) rfl dX7_tell_145 rfl ?_
              refine g_iinc (np := 151) (v := (x3 + (2 : Int32))) (lv' := [(3, .int (x3 + (2 : Int32))), (6, .int r2004), (5, .int r2003), (0, .ref q0), (1, .ref q18), (2, .ref q20), (4, .int x4)]) h 5 rfl rfl (by decide) rfl dX7_tell_148 rfl ?_
              refine g_lv [3, 4, 5, 0, 6] rfl ?_
              exact hL151 v_acts r2008.1 v_weddings v_year v_wreck v_wood v_length v_left v_right r2008.2.1 v_rings r2008.2.2.1 r2008.2.2.2 v_children v_count v_house v_reach v_sounded (x3 + (2 : Int32)) x4 hF
            · refine g_aload_n (np := 102) h 2 rfl rfl dX7_tell_101 rfl ?_
              refine g_aload_n (np := 103) h 2 rfl rfl dX7_tell_102 rfl ?_
              refine g_iload (np := 105) h 1 rfl dX7_tell_103 rfl ?_
              refine g_bipush (np := 107) (v := (65 : Int32)) h (by decide) dX7_tell_105 rfl ?_
              refine g_isub (np := 108) h dX7_tell_107 rfl ?_
              refine g_aload_n (np := 109) h 3 rfl rfl dX7_tell_108 rfl ?_
              refine g_get (np := 112) (T := TX2) h imX7_tell_u_X2 18 2 rfl rfl 0 (by decide) (imX7_tell_own _ (List.mem_of_getElem? (i := 1) rfl)) rfl dX7_tell_109 rfl ?_
              refine g_iload_n (np := 113) h 5 rfl rfl dX7_tell_112 rfl ?_
              refine g_iconst (np := 114) (v := (2 : Int32)) h (by decide) dX7_tell_113 rfl ?_
              refine g_iadd (np := 115) h dX7_tell_114 rfl ?_
              obtain ⟨r2009, hr2009, hF⟩ := Option.bind_eq_some_iff.mp hF
              refine g_callN (np := 118) (Wd' := (wdX7_tell cI cZ q0 q1 q2 q3 q4 q5 q6 q7 q8 q9 q10 q11 q12 q13 q14 q15 q16 q17 q18 q19 q20 q21 q22 q23 q24 q25 q26 q27 q28 q29 q30 q31 q32 q33 q34 q35 q36 v_acts v_why v_weddings v_year v_wreck v_wood v_length v_left v_right v_place v_rings v_piece v_partner v_children v_count v_house v_reach v_sounded v_count2 v_signs v_year2 v_wreck2 v_wood2 v_length2 v_left2 v_right2 v_place2 v_rings2 v_piece2 v_partner2 v_children2 v_count3 v_house2 v_reach2 v_sounded2)) (As := [.ref q19, .int (x3 + (2 : Int32))]) h (mX8_at l D cI cZ q19 60 v_signs (x3 + (2 : Int32)) r2009 hr2009) gcX7_tell_X8_at rfl ⟨rfl, rfl⟩ (List.mem_of_getElem? (i := 15) rfl) (imX7_tell_own _ (List.mem_of_getElem? (i := 3) rfl)) (imX7_tell_own _ (List.mem_of_getElem? (i := 2) rfl)) hyX8_at rfl rfl rfl rfl ⟨Nat.zero_le _, Nat.zero_le _⟩ [19] [0, 1, 2, 3, 4, 5, 6, 7, 8, 9, 10, 11, 12, 13, 14, 15, 16, 17, 18, 20, 21, 22, 23, 24, 25, 26, 27, 28, 29, 30, 31, 32, 33, 34, 35, 36] (N := 37) (by decide +kernel) rfl rfl rfl rfl rfl dX7_tell_115 rfl ?_
              refine g_bipush (np := 120) (v := (65 : Int32)) h (by decide) dX7_tell_118 rfl ?_
              refine g_isub (np := 121) h dX7_tell_120 rfl ?_
              obtain ⟨r2010, hr2010, hF⟩ := Option.bind_eq_some_iff.mp hF
              refine g_callV (np := 124) (Wd' := (wdX7_tell cI cZ q0 q1 q2 q3 q4 q5 q6 q7 q8 q9 q10 q11 q12 q13 q14 q15 q16 q17 q18 q19 q20 q21 q22 q23 q24 q25 q26 q27 q28 q29 q30 q31 q32 q33 q34 q35 q36 v_acts v_why r2010.2.1 v_year v_wreck v_wood v_length v_left v_right v_place v_rings v_piece r2010.2.2 v_children v_count v_house v_reach v_sounded v_count2 v_signs v_year2 v_wreck2 v_wood2 v_length2 v_left2 v_right2 v_place2 v_rings2 v_piece2 v_partner2 v_children2 v_count3 v_house2 v_reach2 v_sounded2)) (As := [.int (r2003 - (65 : Int32)), .int (r2009 - (65 : Int32))]) h (mX7_wed l D cI cZ q0 q1 q2 q3 q10 q11 q12 q14 q4 q5 q6 q7 q8 q9 q13 v_weddings v_wreck v_piece v_partner v_acts v_why v_year (r2003 - (65 : Int32)) (r2009 - (65 : Int32)) r2010 hr2010) gcX7_tell_X7_wed rfl ⟨rfl, rfl⟩ ⟨rfl, hyX7_wed⟩ rfl 7 0 rfl rfl rfl rfl rfl rfl ⟨Nat.zero_le _, Nat.zero_le _⟩ [0, 1, 2, 3, 10, 11, 12] [4, 5, 6, 7, 8, 9, 13, 14, 15, 16, 17, 18, 19, 20, 21, 22, 23, 24, 25, 26, 27, 28, 29, 30, 31, 32, 33, 34, 35, 36] (N := 37) (by decide +kernel) rfl rfl rfl rfl rfl dX7_tell_121 rfl ?_
              refine g_put (np := 127) (T := TX7) (Wd' := (wdX7_tell cI cZ q0 q1 q2 q3 q4 q5 q6 q7 q8 q9 q10 q11 q12 q13 q14 q15 q16 q17 q18 q19 q20 q21 q22 q23 q24 q25 q26 q27 q28 q29 q30 q31 q32 q33 q34 q35 q36 v_acts r2010.1 r2010.2.1 v_year v_wreck v_wood v_length v_left v_right v_place v_rings v_piece r2010.2.2 v_children v_count v_house v_reach v_sounded v_count2 v_signs v_year2 v_wreck2 v_wood2 v_length2 v_left2 v_right2 v_place2 v_rings2 v_piece2 v_partner2 v_children2 v_count3 v_house2 v_reach2 v_sounded2)) h imX7_tell_u_X7 tyX7_ok nmX7 0 7 rfl rfl 2 (by decide) (imX7_tell_own _ (List.mem_of_getElem? (i := 5) rfl)) rfl rfl rfl (Nat.le_of_ble_eq_true rfl) rfl dX7_tell_124 rfl ?_
              refine g_iinc (np := 130) (v := (x3 + (3 : Int32))) (lv' := [(3, .int (x3 + (3 : Int32))), (6, .int r2004), (5, .int r2003), (0, .ref q0), (1, .ref q18), (2, .ref q20), (4, .int x4)]) h 5 rfl rfl (by decide) rfl dX7_tell_127 rfl ?_
              refine g_goto h dX7_tell_130 (np := 151) rfl ?_
              refine g_lv [3, 4, 5, 0, 6] rfl ?_
              exact hL151 v_acts r2010.1 r2010.2.1 v_year v_wreck v_wood v_length v_left v_right v_place v_rings v_piece r2010.2.2 v_children v_count v_house v_reach v_sounded (x3 + (3 : Int32)) x4 hF
          · refine g_aload_n (np := 56) h 2 rfl rfl dX7_tell_55 rfl ?_
            refine g_iload (np := 58) h 1 rfl dX7_tell_56 rfl ?_
            refine g_bipush (np := 60) (v := (46 : Int32)) h (by decide) dX7_tell_58 rfl ?_
            refine g_icmp_ne h hF dX7_tell_60 (np := 63) rfl (tg := 73) rfl (fun c2011 hF => ?_) (fun c2011 hF => ?_)
            · refine g_aload_n (np := 74) h 2 rfl rfl dX7_tell_73 rfl ?_
              refine g_get (np := 77) (T := TX7) h imX7_tell_u_X7 0 7 rfl rfl 0 (by decide) (imX7_tell_own _ (List.mem_of_getElem? (i := 4) rfl)) rfl dX7_tell_74 rfl ?_
              refine g_iload (np := 79) h 1 rfl dX7_tell_77 rfl ?_
              refine g_bipush (np := 81) (v := (48 : Int32)) h (by decide) dX7_tell_79 rfl ?_
              refine g_isub (np := 82) h dX7_tell_81 rfl ?_
              obtain ⟨r2012, hr2012, hF⟩ := Option.bind_eq_some_iff.mp hF
              refine g_callV (np := 85) (Wd' := (wdX7_tell cI cZ q0 q1 q2 q3 q4 q5 q6 q7 q8 q9 q10 q11 q12 q13 q14 q15 q16 q17 q18 q19 q20 q21 q22 q23 q24 q25 q26 q27 q28 q29 q30 q31 q32 q33 q34 q35 q36 v_acts v_why v_weddings v_year v_wreck v_wood v_length v_left v_right r2012.2 v_rings v_piece v_partner v_children v_count v_house v_reach v_sounded v_count2 v_signs v_year2 v_wreck2 v_wood2 v_length2 v_left2 v_right2 v_place2 v_rings2 v_piece2 v_partner2 v_children2 v_count3 v_house2 v_reach2 v_sounded2)) (As := [.int (r2003 - (48 : Int32))]) h (mX5_comeIn l D cI cZ q1 q2 q8 q10 q14 q3 q4 q5 q6 q7 q9 v_place v_year (r2003 - (48 : Int32)) r2012 hr2012) gcX7_tell_X5_comeIn rfl ⟨rfl, rfl⟩ ⟨rfl, hyX5_comeIn⟩ rfl 5 1 rfl rfl rfl rfl rfl rfl ⟨Nat.zero_le _, Nat.zero_le _⟩ [1, 2, 8] [0, 3, 4, 5, 6, 7, 9, 10, 11, 12, 13, 14, 15, 16, 17, 18, 19, 20, 21, 22, 23, 24, 25, 26, 27, 28, 29, 30, 31, 32, 33, 34, 35, 36] (N := 37) (by decide +kernel) rfl rfl rfl rfl rfl dX7_tell_82 rfl ?_
              refine g_put (np := 88) (T := TX7) (Wd' := (wdX7_tell cI cZ q0 q1 q2 q3 q4 q5 q6 q7 q8 q9 q10 q11 q12 q13 q14 q15 q16 q17 q18 q19 q20 q21 q22 q23 q24 q25 q26 q27 q28 q29 q30 q31 q32 q33 q34 q35 q36 v_acts r2012.1 v_weddings v_year v_wreck v_wood v_length v_left v_right r2012.2 v_rings v_piece v_partner v_children v_count v_house v_reach v_sounded v_count2 v_signs v_year2 v_wreck2 v_wood2 v_length2 v_left2 v_right2 v_place2 v_rings2 v_piece2 v_partner2 v_children2 v_count3 v_house2 v_reach2 v_sounded2)) h imX7_tell_u_X7 tyX7_ok nmX7 0 7 rfl rfl 2 (by decide) (imX7_tell_own _ (List.mem_of_getElem? (i := 5) rfl)) rfl rfl rfl (Nat.le_of_ble_eq_true rfl) rfl dX7_tell_85 rfl ?_
              refine g_iinc (np := 91) (v := (x3 + (1 : Int32))) (lv' := [(3, .int (x3 + (1 : Int32))), (6, .int r2004), (5, .int r2003), (0, .ref q0), (1, .ref q18), (2, .ref q20), (4, .int x4)]) h 5 rfl rfl (by decide) rfl dX7_tell_88 rfl ?_
              refine g_goto h dX7_tell_91 (np := 151) rfl ?_
              refine g_lv [3, 4, 5, 0, 6] rfl ?_
              exact hL151 v_acts r2012.1 v_weddings v_year v_wreck v_wood v_length v_left v_right r2012.2 v_rings v_piece v_partner v_children v_count v_house v_reach v_sounded (x3 + (1 : Int32)) x4 hF
            · refine g_aload_n (np := 64) h 2 rfl rfl dX7_tell_63 rfl ?_
              refine g_get (np := 67) (T := TX7) h imX7_tell_u_X7 0 7 rfl rfl 0 (by decide) (imX7_tell_own _ (List.mem_of_getElem? (i := 4) rfl)) rfl dX7_tell_64 rfl ?_
              obtain ⟨r2013, hr2013, hF⟩ := Option.bind_eq_some_iff.mp hF
              refine g_callV (np := 70) (Wd' := (wdX7_tell cI cZ q0 q1 q2 q3 q4 q5 q6 q7 q8 q9 q10 q11 q12 q13 q14 q15 q16 q17 q18 q19 q20 q21 q22 q23 q24 q25 q26 q27 q28 q29 q30 q31 q32 q33 q34 q35 q36 v_acts v_why v_weddings r2013.2.1 v_wreck v_wood v_length v_left v_right v_place v_rings v_piece v_partner r2013.2.2 v_count v_house v_reach v_sounded v_count2 v_signs v_year2 v_wreck2 v_wood2 v_length2 v_left2 v_right2 v_place2 v_rings2 v_piece2 v_partner2 v_children2 v_count3 v_house2 v_reach2 v_sounded2)) (As := []) h (mX5_passYear l D cI cZ q1 q10 q12 q13 q2 q14 q11 v_year v_partner v_children r2013 hr2013) gcX7_tell_X5_passYear rfl ⟨rfl, rfl⟩ ⟨rfl, hyX5_passYear⟩ rfl 5 1 rfl rfl rfl rfl rfl rfl ⟨Nat.zero_le _, Nat.zero_le _⟩ [1, 10, 12, 13] [0, 2, 3, 4, 5, 6, 7, 8, 9, 11, 14, 15, 16, 17, 18, 19, 20, 21, 22, 23, 24, 25, 26, 27, 28, 29, 30, 31, 32, 33, 34, 35, 36] (N := 37) (by decide +kernel) rfl rfl rfl rfl rfl dX7_tell_67 rfl ?_
              refine g_goto h dX7_tell_70 (np := 85) rfl ?_
              refine g_put (np := 88) (T := TX7) (Wd' := (wdX7_tell cI cZ q0 q1 q2 q3 q4 q5 q6 q7 q8 q9 q10 q11 q12 q13 q14 q15 q16 q17 q18 q19 q20 q21 q22 q23 q24 q25 q26 q27 q28 q29 q30 q31 q32 q33 q34 q35 q36 v_acts r2013.1 v_weddings r2013.2.1 v_wreck v_wood v_length v_left v_right v_place v_rings v_piece v_partner r2013.2.2 v_count v_house v_reach v_sounded v_count2 v_signs v_year2 v_wreck2 v_wood2 v_length2 v_left2 v_right2 v_place2 v_rings2 v_piece2 v_partner2 v_children2 v_count3 v_house2 v_reach2 v_sounded2)) h imX7_tell_u_X7 tyX7_ok nmX7 0 7 rfl rfl 2 (by decide) (imX7_tell_own _ (List.mem_of_getElem? (i := 5) rfl)) rfl rfl rfl (Nat.le_of_ble_eq_true rfl) rfl dX7_tell_85 rfl ?_
              refine g_iinc (np := 91) (v := (x3 + (1 : Int32))) (lv' := [(3, .int (x3 + (1 : Int32))), (6, .int r2004), (5, .int r2003), (0, .ref q0), (1, .ref q18), (2, .ref q20), (4, .int x4)]) h 5 rfl rfl (by decide) rfl dX7_tell_88 rfl ?_
              refine g_goto h dX7_tell_91 (np := 151) rfl ?_
              refine g_lv [3, 4, 5, 0, 6] rfl ?_
              exact hL151 v_acts r2013.1 v_weddings r2013.2.1 v_wreck v_wood v_length v_left v_right v_place v_rings v_piece v_partner r2013.2.2 v_count v_house v_reach v_sounded (x3 + (1 : Int32)) x4 hF
  unfold fX7_tell at hF
  refine g_aload_n (np := 1) h 0 rfl rfl dX7_tell_0 rfl ?_
  refine g_aload_n (np := 2) h 2 rfl rfl dX7_tell_1 rfl ?_
  obtain ⟨r1, hr1, hF⟩ := Option.bind_eq_some_iff.mp hF
  refine g_callV (np := 5) (Wd' := (wdX7_tell cI cZ q0 q1 q2 q3 q4 q5 q6 q7 q8 q9 q10 q11 q12 q13 q14 q15 q16 q17 q18 q19 q20 q21 q22 q23 q24 q25 q26 q27 q28 q29 q30 q31 q32 q33 q34 q35 q36 r1.1 r1.2.1 r1.2.2.1 r1.2.2.2.1 r1.2.2.2.2.1 r1.2.2.2.2.2.1 r1.2.2.2.2.2.2.1 r1.2.2.2.2.2.2.2.1 r1.2.2.2.2.2.2.2.2.1 r1.2.2.2.2.2.2.2.2.2.1 r1.2.2.2.2.2.2.2.2.2.2.1 r1.2.2.2.2.2.2.2.2.2.2.2.1 r1.2.2.2.2.2.2.2.2.2.2.2.2.1 r1.2.2.2.2.2.2.2.2.2.2.2.2.2.1 r1.2.2.2.2.2.2.2.2.2.2.2.2.2.2.1 r1.2.2.2.2.2.2.2.2.2.2.2.2.2.2.2.1 r1.2.2.2.2.2.2.2.2.2.2.2.2.2.2.2.2.1 r1.2.2.2.2.2.2.2.2.2.2.2.2.2.2.2.2.2 v_count2 v_signs v_year2 v_wreck2 v_wood2 v_length2 v_left2 v_right2 v_place2 v_rings2 v_piece2 v_partner2 v_children2 v_count3 v_house2 v_reach2 v_sounded2)) (As := [.ref q20]) h (mX7_begin l D cI cZ q0 q1 q2 q3 q4 q5 q6 q7 q8 q9 q10 q11 q12 q13 q14 q15 q16 q17 q20 q21 q22 q23 q24 q25 q26 q27 q28 q29 q30 q31 q32 q33 q34 q35 q36 v_acts v_why v_weddings v_year v_wreck v_wood v_length v_left v_right v_place v_rings v_piece v_partner v_children v_count v_house v_reach v_sounded v_year2 v_wreck2 v_wood2 v_length2 v_left2 v_right2 v_place2 v_rings2 v_piece2 v_partner2 v_children2 v_count3 v_house2 v_reach2 v_sounded2 r1 hr1) gcX7_tell_X7_begin rfl ⟨rfl, rfl⟩ ⟨rfl, hyX7_begin⟩ rfl 7 0 rfl rfl rfl rfl rfl rfl ⟨Nat.zero_le _, Nat.zero_le _⟩ [0, 1, 2, 3, 4, 5, 6, 7, 8, 9, 10, 11, 12, 13, 14, 15, 16, 17, 20, 21, 22, 23, 24, 25, 26, 27, 28, 29, 30, 31, 32, 33, 34, 35, 36] [18, 19] (N := 37) (by decide +kernel) rfl rfl rfl rfl rfl dX7_tell_2 rfl ?_
  refine g_iconst (np := 6) (v := (0 : Int32)) h (by decide) dX7_tell_5 rfl ?_
  refine g_istore_n (np := 7) (lv' := [(3, .int (0 : Int32)), (0, .ref q0), (1, .ref q18), (2, .ref q20)]) h rfl (by decide) rfl dX7_tell_6 rfl ?_
  refine g_iconst (np := 8) (v := (0 : Int32)) h (by decide) dX7_tell_7 rfl ?_
  refine g_istore (np := 10) (lv' := [(4, .int (0 : Int32)), (3, .int (0 : Int32)), (0, .ref q0), (1, .ref q18), (2, .ref q20)]) h (by decide) rfl dX7_tell_8 rfl ?_
  refine g_lv [2, 3, 4, 1, 0] rfl ?_
  exact hL10 _ r1.1 r1.2.1 r1.2.2.1 r1.2.2.2.1 r1.2.2.2.2.1 r1.2.2.2.2.2.1 r1.2.2.2.2.2.2.1 r1.2.2.2.2.2.2.2.1 r1.2.2.2.2.2.2.2.2.1 r1.2.2.2.2.2.2.2.2.2.1 r1.2.2.2.2.2.2.2.2.2.2.1 r1.2.2.2.2.2.2.2.2.2.2.2.1 r1.2.2.2.2.2.2.2.2.2.2.2.2.1 r1.2.2.2.2.2.2.2.2.2.2.2.2.2.1 r1.2.2.2.2.2.2.2.2.2.2.2.2.2.2.1 r1.2.2.2.2.2.2.2.2.2.2.2.2.2.2.2.1 r1.2.2.2.2.2.2.2.2.2.2.2.2.2.2.2.2.1 r1.2.2.2.2.2.2.2.2.2.2.2.2.2.2.2.2.2 (0 : Int32) (0 : Int32) hF
theorem dX7_drawnAct_0 : decode cX7_drawnAct 0 = .ok (.iload_n 1, 1) := by decide +kernel
theorem dX7_drawnAct_1 : decode cX7_drawnAct 1 = .ok (.tableswitch 104 0 6 #[43, 43, 55, 55, 69, 80, 92], 43) := by decide +kernel
theorem dX7_drawnAct_44 : decode cX7_drawnAct 44 = .ok (.aload_n 0, 1) := by decide +kernel
theorem dX7_drawnAct_45 : decode cX7_drawnAct 45 = .ok (.getfield 12, 3) := by decide +kernel
theorem dX7_drawnAct_48 : decode cX7_drawnAct 48 = .ok (.iload_n 2, 1) := by decide +kernel
theorem dX7_drawnAct_49 : decode cX7_drawnAct 49 = .ok (.invokevirtual 56, 3) := by decide +kernel
theorem dX7_drawnAct_52 : decode cX7_drawnAct 52 = .ok (.pop, 1) := by decide +kernel
theorem dX7_drawnAct_53 : decode cX7_drawnAct 53 = .ok (.goto 60, 3) := by decide +kernel
theorem dX7_drawnAct_56 : decode cX7_drawnAct 56 = .ok (.aload_n 0, 1) := by decide +kernel
theorem dX7_drawnAct_57 : decode cX7_drawnAct 57 = .ok (.getfield 12, 3) := by decide +kernel
theorem dX7_drawnAct_60 : decode cX7_drawnAct 60 = .ok (.iload 4, 2) := by decide +kernel
theorem dX7_drawnAct_62 : decode cX7_drawnAct 62 = .ok (.iload_n 2, 1) := by decide +kernel
theorem dX7_drawnAct_63 : decode cX7_drawnAct 63 = .ok (.invokevirtual 73, 3) := by decide +kernel
theorem dX7_drawnAct_66 : decode cX7_drawnAct 66 = .ok (.pop, 1) := by decide +kernel
theorem dX7_drawnAct_67 : decode cX7_drawnAct 67 = .ok (.goto 46, 3) := by decide +kernel
theorem dX7_drawnAct_70 : decode cX7_drawnAct 70 = .ok (.aload_n 0, 1) := by decide +kernel
theorem dX7_drawnAct_71 : decode cX7_drawnAct 71 = .ok (.iload_n 3, 1) := by decide +kernel
theorem dX7_drawnAct_72 : decode cX7_drawnAct 72 = .ok (.iload 4, 2) := by decide +kernel
theorem dX7_drawnAct_74 : decode cX7_drawnAct 74 = .ok (.invokevirtual 60, 3) := by decide +kernel
theorem dX7_drawnAct_77 : decode cX7_drawnAct 77 = .ok (.pop, 1) := by decide +kernel
theorem dX7_drawnAct_78 : decode cX7_drawnAct 78 = .ok (.goto 35, 3) := by decide +kernel
theorem dX7_drawnAct_81 : decode cX7_drawnAct 81 = .ok (.aload_n 0, 1) := by decide +kernel
theorem dX7_drawnAct_82 : decode cX7_drawnAct 82 = .ok (.getfield 12, 3) := by decide +kernel
theorem dX7_drawnAct_85 : decode cX7_drawnAct 85 = .ok (.iload_n 3, 1) := by decide +kernel
theorem dX7_drawnAct_86 : decode cX7_drawnAct 86 = .ok (.invokevirtual 67, 3) := by decide +kernel
theorem dX7_drawnAct_89 : decode cX7_drawnAct 89 = .ok (.pop, 1) := by decide +kernel
theorem dX7_drawnAct_90 : decode cX7_drawnAct 90 = .ok (.goto 23, 3) := by decide +kernel
theorem dX7_drawnAct_93 : decode cX7_drawnAct 93 = .ok (.aload_n 0, 1) := by decide +kernel
theorem dX7_drawnAct_94 : decode cX7_drawnAct 94 = .ok (.getfield 12, 3) := by decide +kernel
theorem dX7_drawnAct_97 : decode cX7_drawnAct 97 = .ok (.iload_n 3, 1) := by decide +kernel
theorem dX7_drawnAct_98 : decode cX7_drawnAct 98 = .ok (.invokevirtual 70, 3) := by decide +kernel
theorem dX7_drawnAct_101 : decode cX7_drawnAct 101 = .ok (.pop, 1) := by decide +kernel
theorem dX7_drawnAct_102 : decode cX7_drawnAct 102 = .ok (.goto 11, 3) := by decide +kernel
theorem dX7_drawnAct_105 : decode cX7_drawnAct 105 = .ok (.aload_n 0, 1) := by decide +kernel
theorem dX7_drawnAct_106 : decode cX7_drawnAct 106 = .ok (.getfield 12, 3) := by decide +kernel
theorem dX7_drawnAct_109 : decode cX7_drawnAct 109 = .ok (.invokevirtual 52, 3) := by decide +kernel
theorem dX7_drawnAct_112 : decode cX7_drawnAct 112 = .ok (.pop, 1) := by decide +kernel
theorem dX7_drawnAct_113 : decode cX7_drawnAct 113 = .ok (.return_, 1) := by decide +kernel
def wtX7_drawnAct : List Cond := .code yX7_drawnAct cX7_drawnAct 5 none :: (([.fieldLink RX7 12 "DriftKin$Years" "end" "LDriftKin$Shore;"]) ++ ((u_ws RX7 TX7 4) ++ ((wsV RX7 56 RX5 yX5_comeIn wtX5_comeIn) ++ ((wsV RX7 73 RX5 yX5_takeHome wtX5_takeHome) ++ ((wsV RX7 60 RX7 yX7_wed wtX7_wed) ++ ((wsV RX7 67 RX5 yX5_part wtX5_part) ++ ((wsV RX7 70 RX5 yX5_burn wtX5_burn) ++ ((wsV RX7 52 RX5 yX5_passYear wtX5_passYear) ++ []))))))))
theorem imX7_drawnAct_own : ∀ w ∈ ([.fieldLink RX7 12 "DriftKin$Years" "end" "LDriftKin$Shore;"] : List Cond), w ∈ wtX7_drawnAct := fun w h => List.mem_cons_of_mem _ (inl h)
theorem imX7_drawnAct_u_X7 : ∀ w ∈ (u_ws RX7 TX7 4 : List Cond), w ∈ wtX7_drawnAct := fun w h => List.mem_cons_of_mem _ (inr (inl h))
theorem imX7_drawnAct_c_X5_comeIn : ∀ w ∈ (wsV RX7 56 RX5 yX5_comeIn wtX5_comeIn : List Cond), w ∈ wtX7_drawnAct := fun w h => List.mem_cons_of_mem _ (inr (inr (inl h)))
theorem imX7_drawnAct_c_X5_takeHome : ∀ w ∈ (wsV RX7 73 RX5 yX5_takeHome wtX5_takeHome : List Cond), w ∈ wtX7_drawnAct := fun w h => List.mem_cons_of_mem _ (inr (inr (inr (inl h))))
theorem imX7_drawnAct_c_X7_wed : ∀ w ∈ (wsV RX7 60 RX7 yX7_wed wtX7_wed : List Cond), w ∈ wtX7_drawnAct := fun w h => List.mem_cons_of_mem _ (inr (inr (inr (inr (inl h)))))
theorem imX7_drawnAct_c_X5_part : ∀ w ∈ (wsV RX7 67 RX5 yX5_part wtX5_part : List Cond), w ∈ wtX7_drawnAct := fun w h => List.mem_cons_of_mem _ (inr (inr (inr (inr (inr (inl h))))))
theorem imX7_drawnAct_c_X5_burn : ∀ w ∈ (wsV RX7 70 RX5 yX5_burn wtX5_burn : List Cond), w ∈ wtX7_drawnAct := fun w h => List.mem_cons_of_mem _ (inr (inr (inr (inr (inr (inr (inl h)))))))
theorem imX7_drawnAct_c_X5_passYear : ∀ w ∈ (wsV RX7 52 RX5 yX5_passYear wtX5_passYear : List Cond), w ∈ wtX7_drawnAct := fun w h => List.mem_cons_of_mem _ (inr (inr (inr (inr (inr (inr (inr (inl h))))))))
theorem gdX7_drawnAct : ∀ w ∈ wtX7_drawnAct, Gd w := gdc rfl (gda (gdl (by decide +kernel)) (gda (gdu _ _ _) (gda (gda (gdl (by decide +kernel)) gdX5_comeIn) (gda (gda (gdl (by decide +kernel)) gdX5_takeHome) (gda (gda (gdl (by decide +kernel)) gdX7_wed) (gda (gda (gdl (by decide +kernel)) gdX5_part) (gda (gda (gdl (by decide +kernel)) gdX5_burn) (gda (gda (gdl (by decide +kernel)) gdX5_passYear) gdn))))))))
theorem gcX7_drawnAct_X5_comeIn : GoodIn wtX7_drawnAct (wsV RX7 56 RX5 yX5_comeIn wtX5_comeIn) := fun w h => ⟨imX7_drawnAct_c_X5_comeIn w h, (gda (gdl (by decide +kernel)) gdX5_comeIn) w h⟩
theorem gcX7_drawnAct_X5_takeHome : GoodIn wtX7_drawnAct (wsV RX7 73 RX5 yX5_takeHome wtX5_takeHome) := fun w h => ⟨imX7_drawnAct_c_X5_takeHome w h, (gda (gdl (by decide +kernel)) gdX5_takeHome) w h⟩
theorem gcX7_drawnAct_X7_wed : GoodIn wtX7_drawnAct (wsV RX7 60 RX7 yX7_wed wtX7_wed) := fun w h => ⟨imX7_drawnAct_c_X7_wed w h, (gda (gdl (by decide +kernel)) gdX7_wed) w h⟩
theorem gcX7_drawnAct_X5_part : GoodIn wtX7_drawnAct (wsV RX7 67 RX5 yX5_part wtX5_part) := fun w h => ⟨imX7_drawnAct_c_X5_part w h, (gda (gdl (by decide +kernel)) gdX5_part) w h⟩
theorem gcX7_drawnAct_X5_burn : GoodIn wtX7_drawnAct (wsV RX7 70 RX5 yX5_burn wtX5_burn) := fun w h => ⟨imX7_drawnAct_c_X5_burn w h, (gda (gdl (by decide +kernel)) gdX5_burn) w h⟩
theorem gcX7_drawnAct_X5_passYear : GoodIn wtX7_drawnAct (wsV RX7 52 RX5 yX5_passYear wtX5_passYear) := fun w h => ⟨imX7_drawnAct_c_X5_passYear w h, (gda (gdl (by decide +kernel)) gdX5_passYear) w h⟩
def fX7_drawnAct_56 (v_weddings : Int32) (v_year : Int32) (v_place : Nat → Int32) (v_piece : Nat → Int32) (v_partner : Nat → Int32) (v_children : Nat → Int32) (x2 : Int32) (x4 : Int32) : Option (Int32 × Int32 × (Nat → Int32) × (Nat → Int32) × (Nat → Int32) × (Nat → Int32)) :=
  (fX5_takeHome v_place v_piece x4 x2).bind (fun r1001 =>
    some (v_weddings, v_year, r1001.2.1, r1001.2.2, v_partner, v_children))
def fX7_drawnAct_44 (v_weddings : Int32) (v_year : Int32) (v_place : Nat → Int32) (v_piece : Nat → Int32) (v_partner : Nat → Int32) (v_children : Nat → Int32) (x2 : Int32) : Option (Int32 × Int32 × (Nat → Int32) × (Nat → Int32) × (Nat → Int32) × (Nat → Int32)) :=
  (fX5_comeIn v_place x2).bind (fun r2001 =>
    some (v_weddings, v_year, r2001.2, v_piece, v_partner, v_children))
def fX7_drawnAct (v_weddings : Int32) (v_year : Int32) (v_wreck : Nat → Int32) (v_place : Nat → Int32) (v_piece : Nat → Int32) (v_partner : Nat → Int32) (v_children : Nat → Int32) (x1 : Int32) (x2 : Int32) (x3 : Int32) (x4 : Int32) : Option (Int32 × Int32 × (Nat → Int32) × (Nat → Int32) × (Nat → Int32) × (Nat → Int32)) :=
  if x1 = (0 : Int32) then
    fX7_drawnAct_44 v_weddings v_year v_place v_piece v_partner v_children x2
  else
    if x1 = (1 : Int32) then
      fX7_drawnAct_44 v_weddings v_year v_place v_piece v_partner v_children x2
    else
      if x1 = (2 : Int32) then
        fX7_drawnAct_56 v_weddings v_year v_place v_piece v_partner v_children x2 x4
      else
        if x1 = (3 : Int32) then
          fX7_drawnAct_56 v_weddings v_year v_place v_piece v_partner v_children x2 x4
        else
          if x1 = (4 : Int32) then
            (fX7_wed v_weddings v_wreck v_piece v_partner x3 x4).bind (fun r2 =>
              some (r2.2.1, v_year, v_place, v_piece, r2.2.2, v_children))
          else
            if x1 = (5 : Int32) then
              (fX5_part v_partner x3).bind (fun r3 =>
                some (v_weddings, v_year, v_place, v_piece, r3.2, v_children))
            else
              if x1 = (6 : Int32) then
                (fX5_burn v_place v_piece x3).bind (fun r4 =>
                  some (v_weddings, v_year, r4.2.1, r4.2.2, v_partner, v_children))
              else
                (fX5_passYear v_year v_partner v_children).bind (fun r5 =>
                  some (v_weddings, r5.2.1, v_place, v_piece, v_partner, r5.2.2))
def wdX7_drawnAct (cI cZ : ClassId) (q0 : Nat) (q1 : Nat) (q2 : Nat) (q3 : Nat) (q4 : Nat) (q5 : Nat) (q6 : Nat) (q7 : Nat) (q8 : Nat) (d9 : Nat) (d10 : Nat) (d11 : Nat) (d12 : Nat) (d13 : Nat) (d14 : Nat)  (v_weddings : Int32) (v_year : Int32) (v_wreck : Nat → Int32) (v_place : Nat → Int32) (v_piece : Nat → Int32) (v_partner : Nat → Int32) (v_children : Nat → Int32) (v_acts : Int32) (v_why : Int32) : va_W := [(q0, .inr (7, [.ref q1, .int v_acts, .int v_why, .int v_weddings])), (q1, .inr (5, [.ref q2, .ref q5, .ref d9, .int v_year])), (q2, .inr (3, [.ref q3, .ref d10, .ref d11, .ref d12, .ref d13, .ref q4, .ref d14])), (q3, .inl (cI, 10, .inl v_wreck)), (q4, .inl (cI, 10, .inl v_place)), (q5, .inr (0, [.ref q6, .ref q7, .ref q8])), (q6, .inl (cI, 8, .inl v_piece)), (q7, .inl (cI, 8, .inl v_partner)), (q8, .inl (cI, 8, .inl v_children))]
abbrev rmX7_drawnAct : Jvm.Room := { frames := 4, cells := 0, slots := 0, locals := 87 }
theorem hyX7_drawnAct : yX7_drawnAct.cls ≠ "java/lang/invoke/MethodHandle" ∧ yX7_drawnAct.cls ≠ "java/lang/invoke/VarHandle" ∧ (parseMethodDescriptor yX7_drawnAct.desc).map (fun d => d.parameters.length) = some 4 := by decide +kernel
set_option maxHeartbeats 4000000 in
set_option maxRecDepth 100000 in
theorem mX7_drawnAct (l : Launch) (D : va_G) (cI cZ : ClassId) (q0 : Nat) (q1 : Nat) (q2 : Nat) (q3 : Nat) (q4 : Nat) (q5 : Nat) (q6 : Nat) (q7 : Nat) (q8 : Nat) (d9 : Nat) (d10 : Nat) (d11 : Nat) (d12 : Nat) (d13 : Nat) (d14 : Nat) (v_weddings : Int32) (v_year : Int32) (v_wreck : Nat → Int32) (v_place : Nat → Int32) (v_piece : Nat → Int32) (v_partner : Nat → Int32) (v_children : Nat → Int32) (v_acts : Int32) (v_why : Int32) (x1 : Int32) (x2 : Int32) (x3 : Int32) (x4 : Int32) (z : Int32 × Int32 × (Nat → Int32) × (Nat → Int32) × (Nat → Int32) × (Nat → Int32)) (hF : fX7_drawnAct v_weddings v_year v_wreck v_place v_piece v_partner v_children x1 x2 x3 x4 = some z) : mp l yX7_drawnAct wtX7_drawnAct rmX7_drawnAct D cI cZ [.ref q0, .int x1, .int x2, .int x3, .int x4] (wdX7_drawnAct cI cZ q0 q1 q2 q3 q4 q5 q6 q7 q8 d9 d10 d11 d12 d13 d14 v_weddings v_year v_wreck v_place v_piece v_partner v_children v_acts v_why) none (wdX7_drawnAct cI cZ q0 q1 q2 q3 q4 q5 q6 q7 q8 d9 d10 d11 d12 d13 d14 z.1 z.2.1 v_wreck z.2.2.1 z.2.2.2.1 z.2.2.2.2.1 z.2.2.2.2.2 v_acts v_why) := by
  refine mp_v (lv0 := [(0, .ref q0), (1, .int x1), (2, .int x2), (3, .int x3), (4, .int x4)]) cX7_drawnAct 5 (by decide) rfl (Nat.le_of_ble_eq_true rfl) rfl (fun E h hend0 => ?_)
  have hend : ∀ (z' : Int32 × Int32 × (Nat → Int32) × (Nat → Int32) × (Nat → Int32) × (Nat → Int32)), some z' = some z → ∀ (pc : Nat) (lv : List (Nat × Value)), decode cX7_drawnAct pc = .ok (.return_, 1) → G l D E 5 0 0 (wdX7_drawnAct cI cZ q0 q1 q2 q3 q4 q5 q6 q7 q8 d9 d10 d11 d12 d13 d14 (z'.1) (z'.2.1) v_wreck (z'.2.2.1) (z'.2.2.2.1) (z'.2.2.2.2.1) (z'.2.2.2.2.2) v_acts v_why) pc lv [] := fun z' e => by cases e; exact hend0
  clear hend0
  have hL56 : ∀ (v_weddings : Int32) (v_year : Int32) (v_place : Nat → Int32) (v_piece : Nat → Int32) (v_partner : Nat → Int32) (v_children : Nat → Int32), fX7_drawnAct_56 v_weddings v_year v_place v_piece v_partner v_children x2 x4 = some z → G l D E 5 0 0 (wdX7_drawnAct cI cZ q0 q1 q2 q3 q4 q5 q6 q7 q8 d9 d10 d11 d12 d13 d14 v_weddings v_year v_wreck v_place v_piece v_partner v_children v_acts v_why) 56 [(0, .ref q0), (2, .int x2), (4, .int x4)] [] := by
    intro v_weddings v_year v_place v_piece v_partner v_children hF
    rw [fX7_drawnAct_56] at hF
    refine g_aload_n (np := 57) h 0 rfl rfl dX7_drawnAct_56 rfl ?_
    refine g_get (np := 60) (T := TX7) h imX7_drawnAct_u_X7 0 7 rfl rfl 0 (by decide) (imX7_drawnAct_own _ (List.mem_of_getElem? (i := 0) rfl)) rfl dX7_drawnAct_57 rfl ?_
    refine g_iload (np := 62) h 2 rfl dX7_drawnAct_60 rfl ?_
    refine g_iload_n (np := 63) h 1 rfl rfl dX7_drawnAct_62 rfl ?_
    obtain ⟨r1001, hr1001, hF⟩ := Option.bind_eq_some_iff.mp hF
    refine g_callV (np := 66) (Wd' := (wdX7_drawnAct cI cZ q0 q1 q2 q3 q4 q5 q6 q7 q8 d9 d10 d11 d12 d13 d14 v_weddings v_year v_wreck r1001.2.1 r1001.2.2 v_partner v_children v_acts v_why)) (As := [.int x4, .int x2]) h (mX5_takeHome l D cI cZ q1 q2 q4 q5 q6 d9 q3 d10 d11 d12 d13 d14 q7 q8 v_place v_piece v_year x4 x2 r1001 hr1001) gcX7_drawnAct_X5_takeHome rfl ⟨rfl, rfl⟩ ⟨rfl, hyX5_takeHome⟩ rfl 5 1 rfl rfl rfl rfl rfl rfl ⟨Nat.zero_le _, Nat.zero_le _⟩ [1, 2, 4, 5, 6] [0, 3, 7, 8] (N := 9) (by decide +kernel) rfl rfl rfl rfl rfl dX7_drawnAct_63 rfl ?_
    refine g_pop (np := 67) h rfl dX7_drawnAct_66 rfl ?_
    refine g_goto h dX7_drawnAct_67 (np := 113) rfl ?_
    exact hend _ hF _ _ dX7_drawnAct_113
  have hL44 : ∀ (v_weddings : Int32) (v_year : Int32) (v_place : Nat → Int32) (v_piece : Nat → Int32) (v_partner : Nat → Int32) (v_children : Nat → Int32), fX7_drawnAct_44 v_weddings v_year v_place v_piece v_partner v_children x2 = some z → G l D E 5 0 0 (wdX7_drawnAct cI cZ q0 q1 q2 q3 q4 q5 q6 q7 q8 d9 d10 d11 d12 d13 d14 v_weddings v_year v_wreck v_place v_piece v_partner v_children v_acts v_why) 44 [(0, .ref q0), (2, .int x2)] [] := by
    intro v_weddings v_year v_place v_piece v_partner v_children hF
    rw [fX7_drawnAct_44] at hF
    refine g_aload_n (np := 45) h 0 rfl rfl dX7_drawnAct_44 rfl ?_
    refine g_get (np := 48) (T := TX7) h imX7_drawnAct_u_X7 0 7 rfl rfl 0 (by decide) (imX7_drawnAct_own _ (List.mem_of_getElem? (i := 0) rfl)) rfl dX7_drawnAct_45 rfl ?_
    refine g_iload_n (np := 49) h 1 rfl rfl dX7_drawnAct_48 rfl ?_
    obtain ⟨r2001, hr2001, hF⟩ := Option.bind_eq_some_iff.mp hF
    refine g_callV (np := 52) (Wd' := (wdX7_drawnAct cI cZ q0 q1 q2 q3 q4 q5 q6 q7 q8 d9 d10 d11 d12 d13 d14 v_weddings v_year v_wreck r2001.2 v_piece v_partner v_children v_acts v_why)) (As := [.int x2]) h (mX5_comeIn l D cI cZ q1 q2 q4 q5 d9 q3 d10 d11 d12 d13 d14 v_place v_year x2 r2001 hr2001) gcX7_drawnAct_X5_comeIn rfl ⟨rfl, rfl⟩ ⟨rfl, hyX5_comeIn⟩ rfl 5 1 rfl rfl rfl rfl rfl rfl ⟨Nat.zero_le _, Nat.zero_le _⟩ [1, 2, 4] [0, 3, 5, 6, 7, 8] (N := 9) (by decide +kernel) rfl rfl rfl rfl rfl dX7_drawnAct_49 rfl ?_
    refine g_pop (np := 53) h rfl dX7_drawnAct_52 rfl ?_
    refine g_goto h dX7_drawnAct_53 (np := 113) rfl ?_
    exact hend _ hF _ _ dX7_drawnAct_113
  unfold fX7_drawnAct at hF
  refine g_iload_n (np := 1) h 1 rfl rfl dX7_drawnAct_0 rfl ?_
  by_cases c1_0 : x1 = (0 : Int32)
  · rw [if_pos c1_0] at hF
    refine g_tsIn (np := 44) h dX7_drawnAct_1 0 (by rw [c1_0]; decide) (by decide) (by decide) rfl rfl ?_
    refine g_lv [0, 2] rfl ?_
    exact hL44 v_weddings v_year v_place v_piece v_partner v_children hF
  rw [if_neg c1_0] at hF
  by_cases c1_1 : x1 = (1 : Int32)
  · rw [if_pos c1_1] at hF
    refine g_tsIn (np := 44) h dX7_drawnAct_1 1 (by rw [c1_1]; decide) (by decide) (by decide) rfl rfl ?_
    refine g_lv [0, 2] rfl ?_
    exact hL44 v_weddings v_year v_place v_piece v_partner v_children hF
  rw [if_neg c1_1] at hF
  by_cases c1_2 : x1 = (2 : Int32)
  · rw [if_pos c1_2] at hF
    refine g_tsIn (np := 56) h dX7_drawnAct_1 2 (by rw [c1_2]; decide) (by decide) (by decide) rfl rfl ?_
    refine g_lv [0, 2, 4] rfl ?_
    exact hL56 v_weddings v_year v_place v_piece v_partner v_children hF
  rw [if_neg c1_2] at hF
  by_cases c1_3 : x1 = (3 : Int32)
  · rw [if_pos c1_3] at hF
    refine g_tsIn (np := 56) h dX7_drawnAct_1 3 (by rw [c1_3]; decide) (by decide) (by decide) rfl rfl ?_
    refine g_lv [0, 2, 4] rfl ?_
    exact hL56 v_weddings v_year v_place v_piece v_partner v_children hF
  rw [if_neg c1_3] at hF
  by_cases c1_4 : x1 = (4 : Int32)
  · rw [if_pos c1_4] at hF
    refine g_tsIn (np := 70) h dX7_drawnAct_1 4 (by rw [c1_4]; decide) (by decide) (by decide) rfl rfl ?_
    refine g_aload_n (np := 71) h 0 rfl rfl dX7_drawnAct_70 rfl ?_
    refine g_iload_n (np := 72) h 3 rfl rfl dX7_drawnAct_71 rfl ?_
    refine g_iload (np := 74) h 4 rfl dX7_drawnAct_72 rfl ?_
    obtain ⟨r2, hr2, hF⟩ := Option.bind_eq_some_iff.mp hF
    refine g_callV (np := 77) (Wd' := (wdX7_drawnAct cI cZ q0 q1 q2 q3 q4 q5 q6 q7 q8 d9 d10 d11 d12 d13 d14 r2.2.1 v_year v_wreck v_place v_piece r2.2.2 v_children v_acts v_why)) (As := [.int x3, .int x4]) h (mX7_wed l D cI cZ q0 q1 q2 q3 q5 q6 q7 d9 d10 d11 d12 d13 q4 d14 q8 v_weddings v_wreck v_piece v_partner v_acts v_why v_year x3 x4 r2 hr2) gcX7_drawnAct_X7_wed rfl ⟨rfl, rfl⟩ ⟨rfl, hyX7_wed⟩ rfl 7 0 rfl rfl rfl rfl rfl rfl ⟨Nat.zero_le _, Nat.zero_le _⟩ [0, 1, 2, 3, 5, 6, 7] [4, 8] (N := 9) (by decide +kernel) rfl rfl rfl rfl rfl dX7_drawnAct_74 rfl ?_
    refine g_pop (np := 78) h rfl dX7_drawnAct_77 rfl ?_
    refine g_goto h dX7_drawnAct_78 (np := 113) rfl ?_
    exact hend _ hF _ _ dX7_drawnAct_113
  rw [if_neg c1_4] at hF
  by_cases c1_5 : x1 = (5 : Int32)
  · rw [if_pos c1_5] at hF
    refine g_tsIn (np := 81) h dX7_drawnAct_1 5 (by rw [c1_5]; decide) (by decide) (by decide) rfl rfl ?_
    refine g_aload_n (np := 82) h 0 rfl rfl dX7_drawnAct_81 rfl ?_
    refine g_get (np := 85) (T := TX7) h imX7_drawnAct_u_X7 0 7 rfl rfl 0 (by decide) (imX7_drawnAct_own _ (List.mem_of_getElem? (i := 0) rfl)) rfl dX7_drawnAct_82 rfl ?_
    refine g_iload_n (np := 86) h 3 rfl rfl dX7_drawnAct_85 rfl ?_
    obtain ⟨r3, hr3, hF⟩ := Option.bind_eq_some_iff.mp hF
    refine g_callV (np := 89) (Wd' := (wdX7_drawnAct cI cZ q0 q1 q2 q3 q4 q5 q6 q7 q8 d9 d10 d11 d12 d13 d14 v_weddings v_year v_wreck v_place v_piece r3.2 v_children v_acts v_why)) (As := [.int x3]) h (mX5_part l D cI cZ q1 q5 q7 q2 d9 q6 q8 v_partner v_year x3 r3 hr3) gcX7_drawnAct_X5_part rfl ⟨rfl, rfl⟩ ⟨rfl, hyX5_part⟩ rfl 5 1 rfl rfl rfl rfl rfl rfl ⟨Nat.zero_le _, Nat.zero_le _⟩ [1, 5, 7] [0, 2, 3, 4, 6, 8] (N := 9) (by decide +kernel) rfl rfl rfl rfl rfl dX7_drawnAct_86 rfl ?_
    refine g_pop (np := 90) h rfl dX7_drawnAct_89 rfl ?_
    refine g_goto h dX7_drawnAct_90 (np := 113) rfl ?_
    exact hend _ hF _ _ dX7_drawnAct_113
  rw [if_neg c1_5] at hF
  by_cases c1_6 : x1 = (6 : Int32)
  · rw [if_pos c1_6] at hF
    refine g_tsIn (np := 93) h dX7_drawnAct_1 6 (by rw [c1_6]; decide) (by decide) (by decide) rfl rfl ?_
    refine g_aload_n (np := 94) h 0 rfl rfl dX7_drawnAct_93 rfl ?_
    refine g_get (np := 97) (T := TX7) h imX7_drawnAct_u_X7 0 7 rfl rfl 0 (by decide) (imX7_drawnAct_own _ (List.mem_of_getElem? (i := 0) rfl)) rfl dX7_drawnAct_94 rfl ?_
    refine g_iload_n (np := 98) h 3 rfl rfl dX7_drawnAct_97 rfl ?_
    obtain ⟨r4, hr4, hF⟩ := Option.bind_eq_some_iff.mp hF
    refine g_callV (np := 101) (Wd' := (wdX7_drawnAct cI cZ q0 q1 q2 q3 q4 q5 q6 q7 q8 d9 d10 d11 d12 d13 d14 v_weddings v_year v_wreck r4.2.1 r4.2.2 v_partner v_children v_acts v_why)) (As := [.int x3]) h (mX5_burn l D cI cZ q1 q2 q4 q5 q6 d9 q3 d10 d11 d12 d13 d14 q7 q8 v_place v_piece v_year x3 r4 hr4) gcX7_drawnAct_X5_burn rfl ⟨rfl, rfl⟩ ⟨rfl, hyX5_burn⟩ rfl 5 1 rfl rfl rfl rfl rfl rfl ⟨Nat.zero_le _, Nat.zero_le _⟩ [1, 2, 4, 5, 6] [0, 3, 7, 8] (N := 9) (by decide +kernel) rfl rfl rfl rfl rfl dX7_drawnAct_98 rfl ?_
    refine g_pop (np := 102) h rfl dX7_drawnAct_101 rfl ?_
    refine g_goto h dX7_drawnAct_102 (np := 113) rfl ?_
    exact hend _ hF _ _ dX7_drawnAct_113
  rw [if_neg c1_6] at hF
  refine g_tsOut (np := 105) h dX7_drawnAct_1 (by have a0 := lv_neT c1_0 (a := 0) (by decide); have a1 := lv_neT c1_1 (a := 1) (by decide); have a2 := lv_neT c1_2 (a := 2) (by decide); have a3 := lv_neT c1_3 (a := 3) (by decide); have a4 := lv_neT c1_4 (a := 4) (by decide); have a5 := lv_neT c1_5 (a := 5) (by decide); have a6 := lv_neT c1_6 (a := 6) (by decide); omega) rfl ?_
  refine g_aload_n (np := 106) h 0 rfl rfl dX7_drawnAct_105 rfl ?_
  refine g_get (np := 109) (T := TX7) h imX7_drawnAct_u_X7 0 7 rfl rfl 0 (by decide) (imX7_drawnAct_own _ (List.mem_of_getElem? (i := 0) rfl)) rfl dX7_drawnAct_106 rfl ?_
  obtain ⟨r5, hr5, hF⟩ := Option.bind_eq_some_iff.mp hF
  refine g_callV (np := 112) (Wd' := (wdX7_drawnAct cI cZ q0 q1 q2 q3 q4 q5 q6 q7 q8 d9 d10 d11 d12 d13 d14 v_weddings r5.2.1 v_wreck v_place v_piece v_partner r5.2.2 v_acts v_why)) (As := []) h (mX5_passYear l D cI cZ q1 q5 q7 q8 q2 d9 q6 v_year v_partner v_children r5 hr5) gcX7_drawnAct_X5_passYear rfl ⟨rfl, rfl⟩ ⟨rfl, hyX5_passYear⟩ rfl 5 1 rfl rfl rfl rfl rfl rfl ⟨Nat.zero_le _, Nat.zero_le _⟩ [1, 5, 7, 8] [0, 2, 3, 4, 6] (N := 9) (by decide +kernel) rfl rfl rfl rfl rfl dX7_drawnAct_109 rfl ?_
  refine g_pop (np := 113) h rfl dX7_drawnAct_112 rfl ?_
  exact hend _ hF _ _ dX7_drawnAct_113
theorem dX7_draw_0 : decode cX7_draw 0 = .ok (.aload_n 0, 1) := by decide +kernel
theorem dX7_draw_1 : decode cX7_draw 1 = .ok (.aload_n 3, 1) := by decide +kernel
theorem dX7_draw_2 : decode cX7_draw 2 = .ok (.invokevirtual 32, 3) := by decide +kernel
theorem dX7_draw_5 : decode cX7_draw 5 = .ok (.iload_n 1, 1) := by decide +kernel
theorem dX7_draw_6 : decode cX7_draw 6 = .ok (.istore 4, 2) := by decide +kernel
theorem dX7_draw_8 : decode cX7_draw 8 = .ok (.iconst 0, 1) := by decide +kernel
theorem dX7_draw_9 : decode cX7_draw 9 = .ok (.istore 5, 2) := by decide +kernel
theorem dX7_draw_11 : decode cX7_draw 11 = .ok (.iload 5, 2) := by decide +kernel
theorem dX7_draw_13 : decode cX7_draw 13 = .ok (.iload_n 2, 1) := by decide +kernel
theorem dX7_draw_14 : decode cX7_draw 14 = .ok (.if_icmp .ge 55, 3) := by decide +kernel
theorem dX7_draw_17 : decode cX7_draw 17 = .ok (.bipush 75, 2) := by decide +kernel
theorem dX7_draw_19 : decode cX7_draw 19 = .ok (.iload 4, 2) := by decide +kernel
theorem dX7_draw_21 : decode cX7_draw 21 = .ok (.imul, 1) := by decide +kernel
theorem dX7_draw_22 : decode cX7_draw 22 = .ok (.bipush 74, 2) := by decide +kernel
theorem dX7_draw_24 : decode cX7_draw 24 = .ok (.iadd, 1) := by decide +kernel
theorem dX7_draw_25 : decode cX7_draw 25 = .ok (.ldc 79, 2) := by decide +kernel
theorem dX7_draw_27 : decode cX7_draw 27 = .ok (.irem, 1) := by decide +kernel
theorem dX7_draw_28 : decode cX7_draw 28 = .ok (.istore 4, 2) := by decide +kernel
theorem dX7_draw_30 : decode cX7_draw 30 = .ok (.aload_n 0, 1) := by decide +kernel
theorem dX7_draw_31 : decode cX7_draw 31 = .ok (.iload 4, 2) := by decide +kernel
theorem dX7_draw_33 : decode cX7_draw 33 = .ok (.bipush 8, 2) := by decide +kernel
theorem dX7_draw_35 : decode cX7_draw 35 = .ok (.irem, 1) := by decide +kernel
theorem dX7_draw_36 : decode cX7_draw 36 = .ok (.iload 4, 2) := by decide +kernel
theorem dX7_draw_38 : decode cX7_draw 38 = .ok (.bipush 8, 2) := by decide +kernel
theorem dX7_draw_40 : decode cX7_draw 40 = .ok (.idiv, 1) := by decide +kernel
theorem dX7_draw_41 : decode cX7_draw 41 = .ok (.bipush 10, 2) := by decide +kernel
theorem dX7_draw_43 : decode cX7_draw 43 = .ok (.irem, 1) := by decide +kernel
theorem dX7_draw_44 : decode cX7_draw 44 = .ok (.iload 4, 2) := by decide +kernel
theorem dX7_draw_46 : decode cX7_draw 46 = .ok (.bipush 8, 2) := by decide +kernel
theorem dX7_draw_48 : decode cX7_draw 48 = .ok (.idiv, 1) := by decide +kernel
theorem dX7_draw_49 : decode cX7_draw 49 = .ok (.bipush 8, 2) := by decide +kernel
theorem dX7_draw_51 : decode cX7_draw 51 = .ok (.irem, 1) := by decide +kernel
theorem dX7_draw_52 : decode cX7_draw 52 = .ok (.iload 4, 2) := by decide +kernel
theorem dX7_draw_54 : decode cX7_draw 54 = .ok (.bipush 64, 2) := by decide +kernel
theorem dX7_draw_56 : decode cX7_draw 56 = .ok (.idiv, 1) := by decide +kernel
theorem dX7_draw_57 : decode cX7_draw 57 = .ok (.bipush 8, 2) := by decide +kernel
theorem dX7_draw_59 : decode cX7_draw 59 = .ok (.irem, 1) := by decide +kernel
theorem dX7_draw_60 : decode cX7_draw 60 = .ok (.invokevirtual 80, 3) := by decide +kernel
theorem dX7_draw_63 : decode cX7_draw 63 = .ok (.iinc 5 1, 3) := by decide +kernel
theorem dX7_draw_66 : decode cX7_draw 66 = .ok (.goto (-55), 3) := by decide +kernel
theorem dX7_draw_69 : decode cX7_draw 69 = .ok (.return_, 1) := by decide +kernel
def wtX7_draw : List Cond := .code yX7_draw cX7_draw 6 none :: (([.constant RX7 79 (65537)]) ++ ((wsV RX7 32 RX7 yX7_begin wtX7_begin) ++ ((wsV RX7 80 RX7 yX7_drawnAct wtX7_drawnAct) ++ [])))
theorem imX7_draw_own : ∀ w ∈ ([.constant RX7 79 (65537)] : List Cond), w ∈ wtX7_draw := fun w h => List.mem_cons_of_mem _ (inl h)
theorem imX7_draw_c_X7_begin : ∀ w ∈ (wsV RX7 32 RX7 yX7_begin wtX7_begin : List Cond), w ∈ wtX7_draw := fun w h => List.mem_cons_of_mem _ (inr (inl h))
theorem imX7_draw_c_X7_drawnAct : ∀ w ∈ (wsV RX7 80 RX7 yX7_drawnAct wtX7_drawnAct : List Cond), w ∈ wtX7_draw := fun w h => List.mem_cons_of_mem _ (inr (inr (inl h)))
theorem gdX7_draw : ∀ w ∈ wtX7_draw, Gd w := gdc rfl (gda (gdl (by decide +kernel)) (gda (gda (gdl (by decide +kernel)) gdX7_begin) (gda (gda (gdl (by decide +kernel)) gdX7_drawnAct) gdn)))
theorem gcX7_draw_X7_begin : GoodIn wtX7_draw (wsV RX7 32 RX7 yX7_begin wtX7_begin) := fun w h => ⟨imX7_draw_c_X7_begin w h, (gda (gdl (by decide +kernel)) gdX7_begin) w h⟩
theorem gcX7_draw_X7_drawnAct : GoodIn wtX7_draw (wsV RX7 80 RX7 yX7_drawnAct wtX7_drawnAct) := fun w h => ⟨imX7_draw_c_X7_drawnAct w h, (gda (gdl (by decide +kernel)) gdX7_drawnAct) w h⟩
def fX7_draw_11 (v_acts : Int32) (v_why : Int32) (v_wreck : Nat → Int32) (v_wood : Nat → Int32) (v_length : Nat → Int32) (v_left : Nat → Int32) (v_right : Nat → Int32) (v_rings : Nat → Int32) (v_count : Int32) (v_house : Nat → Int32) (v_reach : Nat → Int32) (v_sounded : Nat → Int32) (x2 : Int32) : Nat → Int32 → Int32 → (Nat → Int32) → (Nat → Int32) → (Nat → Int32) → (Nat → Int32) → Int32 → Int32 → Option (Int32 × Int32 × Int32 × Int32 × (Nat → Int32) × (Nat → Int32) × (Nat → Int32) × (Nat → Int32) × (Nat → Int32) × (Nat → Int32) × (Nat → Int32) × (Nat → Int32) × (Nat → Int32) × (Nat → Int32) × Int32 × (Nat → Int32) × (Nat → Int32) × (Nat → Int32))
  | 0, _, _, _, _, _, _, _, _ => none
  | n + 1, v_weddings, v_year, v_place, v_piece, v_partner, v_children, x4, x5 =>
    if x2 ≤ x5 then
      some (v_acts, v_why, v_weddings, v_year, v_wreck, v_wood, v_length, v_left, v_right, v_place, v_rings, v_piece, v_partner, v_children, v_count, v_house, v_reach, v_sounded)
    else
      bnd (jrem (jrem (((75 : Int32) * x4) + (74 : Int32)) (65537 : Int32)) (8 : Int32)) (fun t1002 =>
        bnd ((jrem (((75 : Int32) * x4) + (74 : Int32)) (65537 : Int32)) / (8 : Int32)) (fun t1003 =>
          bnd ((jrem (((75 : Int32) * x4) + (74 : Int32)) (65537 : Int32)) / (8 : Int32)) (fun t1004 =>
            bnd ((jrem (((75 : Int32) * x4) + (74 : Int32)) (65537 : Int32)) / (64 : Int32)) (fun t1005 =>
              (fX7_drawnAct v_weddings v_year v_wreck v_place v_piece v_partner v_children t1002 (jrem t1003 (10 : Int32)) (jrem t1004 (8 : Int32)) (jrem t1005 (8 : Int32))).bind (fun r1006 =>
                fX7_draw_11 v_acts v_why v_wreck v_wood v_length v_left v_right v_rings v_count v_house v_reach v_sounded x2 n r1006.1 r1006.2.1 r1006.2.2.1 r1006.2.2.2.1 r1006.2.2.2.2.1 r1006.2.2.2.2.2 (jrem (((75 : Int32) * x4) + (74 : Int32)) (65537 : Int32)) (x5 + (1 : Int32)))))))
def fX7_draw (v_acts : Int32) (v_why : Int32) (v_weddings : Int32) (v_year : Int32) (v_wreck : Nat → Int32) (v_wood : Nat → Int32) (v_length : Nat → Int32) (v_left : Nat → Int32) (v_right : Nat → Int32) (v_place : Nat → Int32) (v_rings : Nat → Int32) (v_piece : Nat → Int32) (v_partner : Nat → Int32) (v_children : Nat → Int32) (v_count : Int32) (v_house : Nat → Int32) (v_reach : Nat → Int32) (v_sounded : Nat → Int32) (v_year2 : Int32) (v_wreck2 : Nat → Int32) (v_wood2 : Nat → Int32) (v_length2 : Nat → Int32) (v_left2 : Nat → Int32) (v_right2 : Nat → Int32) (v_place2 : Nat → Int32) (v_rings2 : Nat → Int32) (v_piece2 : Nat → Int32) (v_partner2 : Nat → Int32) (v_children2 : Nat → Int32) (v_count2 : Int32) (v_house2 : Nat → Int32) (v_reach2 : Nat → Int32) (v_sounded2 : Nat → Int32) (x1 : Int32) (x2 : Int32) : Option (Int32 × Int32 × Int32 × Int32 × (Nat → Int32) × (Nat → Int32) × (Nat → Int32) × (Nat → Int32) × (Nat → Int32) × (Nat → Int32) × (Nat → Int32) × (Nat → Int32) × (Nat → Int32) × (Nat → Int32) × Int32 × (Nat → Int32) × (Nat → Int32) × (Nat → Int32)) :=
  (fX7_begin v_acts v_why v_weddings v_year v_wreck v_wood v_length v_left v_right v_place v_rings v_piece v_partner v_children v_count v_house v_reach v_sounded v_year2 v_wreck2 v_wood2 v_length2 v_left2 v_right2 v_place2 v_rings2 v_piece2 v_partner2 v_children2 v_count2 v_house2 v_reach2 v_sounded2).bind (fun r1 =>
    fX7_draw_11 r1.1 r1.2.1 r1.2.2.2.2.1 r1.2.2.2.2.2.1 r1.2.2.2.2.2.2.1 r1.2.2.2.2.2.2.2.1 r1.2.2.2.2.2.2.2.2.1 r1.2.2.2.2.2.2.2.2.2.2.1 r1.2.2.2.2.2.2.2.2.2.2.2.2.2.2.1 r1.2.2.2.2.2.2.2.2.2.2.2.2.2.2.2.1 r1.2.2.2.2.2.2.2.2.2.2.2.2.2.2.2.2.1 r1.2.2.2.2.2.2.2.2.2.2.2.2.2.2.2.2.2 x2 2000 r1.2.2.1 r1.2.2.2.1 r1.2.2.2.2.2.2.2.2.2.1 r1.2.2.2.2.2.2.2.2.2.2.2.1 r1.2.2.2.2.2.2.2.2.2.2.2.2.1 r1.2.2.2.2.2.2.2.2.2.2.2.2.2.1 x1 (0 : Int32))
def wdX7_draw (cI cZ : ClassId) (q0 : Nat) (q1 : Nat) (q2 : Nat) (q3 : Nat) (q4 : Nat) (q5 : Nat) (q6 : Nat) (q7 : Nat) (q8 : Nat) (q9 : Nat) (q10 : Nat) (q11 : Nat) (q12 : Nat) (q13 : Nat) (q14 : Nat) (q15 : Nat) (q16 : Nat) (q17 : Nat) (q18 : Nat) (q19 : Nat) (q20 : Nat) (q21 : Nat) (q22 : Nat) (q23 : Nat) (q24 : Nat) (q25 : Nat) (q26 : Nat) (q27 : Nat) (q28 : Nat) (q29 : Nat) (q30 : Nat) (q31 : Nat) (q32 : Nat) (q33 : Nat) (q34 : Nat)  (v_acts : Int32) (v_why : Int32) (v_weddings : Int32) (v_year : Int32) (v_wreck : Nat → Int32) (v_wood : Nat → Int32) (v_length : Nat → Int32) (v_left : Nat → Int32) (v_right : Nat → Int32) (v_place : Nat → Int32) (v_rings : Nat → Int32) (v_piece : Nat → Int32) (v_partner : Nat → Int32) (v_children : Nat → Int32) (v_count : Int32) (v_house : Nat → Int32) (v_reach : Nat → Int32) (v_sounded : Nat → Int32) (v_year2 : Int32) (v_wreck2 : Nat → Int32) (v_wood2 : Nat → Int32) (v_length2 : Nat → Int32) (v_left2 : Nat → Int32) (v_right2 : Nat → Int32) (v_place2 : Nat → Int32) (v_rings2 : Nat → Int32) (v_piece2 : Nat → Int32) (v_partner2 : Nat → Int32) (v_children2 : Nat → Int32) (v_count2 : Int32) (v_house2 : Nat → Int32) (v_reach2 : Nat → Int32) (v_sounded2 : Nat → Int32) : va_W := [(q0, .inr (7, [.ref q1, .int v_acts, .int v_why, .int v_weddings])), (q1, .inr (5, [.ref q2, .ref q10, .ref q14, .int v_year])), (q2, .inr (3, [.ref q3, .ref q4, .ref q5, .ref q6, .ref q7, .ref q8, .ref q9])), (q3, .inl (cI, 10, .inl v_wreck)), (q4, .inl (cI, 10, .inl v_wood)), (q5, .inl (cI, 10, .inl v_length)), (q6, .inl (cI, 10, .inl v_left)), (q7, .inl (cI, 10, .inl v_right)), (q8, .inl (cI, 10, .inl v_place)), (q9, .inl (cI, 10, .inl v_rings)), (q10, .inr (0, [.ref q11, .ref q12, .ref q13])), (q11, .inl (cI, 8, .inl v_piece)), (q12, .inl (cI, 8, .inl v_partner)), (q13, .inl (cI, 8, .inl v_children)), (q14, .inr (6, [.ref q15, .ref q16, .ref q17, .int v_count])), (q15, .inl (cI, 8, .inl v_house)), (q16, .inl (cI, 8, .inl v_reach)), (q17, .inl (cI, 8, .inl v_sounded)), (q18, .inr (5, [.ref q19, .ref q27, .ref q31, .int v_year2])), (q19, .inr (3, [.ref q20, .ref q21, .ref q22, .ref q23, .ref q24, .ref q25, .ref q26])), (q20, .inl (cI, 10, .inl v_wreck2)), (q21, .inl (cI, 10, .inl v_wood2)), (q22, .inl (cI, 10, .inl v_length2)), (q23, .inl (cI, 10, .inl v_left2)), (q24, .inl (cI, 10, .inl v_right2)), (q25, .inl (cI, 10, .inl v_place2)), (q26, .inl (cI, 10, .inl v_rings2)), (q27, .inr (0, [.ref q28, .ref q29, .ref q30])), (q28, .inl (cI, 8, .inl v_piece2)), (q29, .inl (cI, 8, .inl v_partner2)), (q30, .inl (cI, 8, .inl v_children2)), (q31, .inr (6, [.ref q32, .ref q33, .ref q34, .int v_count2])), (q32, .inl (cI, 8, .inl v_house2)), (q33, .inl (cI, 8, .inl v_reach2)), (q34, .inl (cI, 8, .inl v_sounded2))]
abbrev rmX7_draw : Jvm.Room := { frames := 5, cells := 0, slots := 0, locals := 111 }
theorem hyX7_draw : yX7_draw.cls ≠ "java/lang/invoke/MethodHandle" ∧ yX7_draw.cls ≠ "java/lang/invoke/VarHandle" ∧ (parseMethodDescriptor yX7_draw.desc).map (fun d => d.parameters.length) = some 3 := by decide +kernel
set_option maxHeartbeats 4000000 in
set_option maxRecDepth 100000 in
theorem mX7_draw (l : Launch) (D : va_G) (cI cZ : ClassId) (q0 : Nat) (q1 : Nat) (q2 : Nat) (q3 : Nat) (q4 : Nat) (q5 : Nat) (q6 : Nat) (q7 : Nat) (q8 : Nat) (q9 : Nat) (q10 : Nat) (q11 : Nat) (q12 : Nat) (q13 : Nat) (q14 : Nat) (q15 : Nat) (q16 : Nat) (q17 : Nat) (q18 : Nat) (q19 : Nat) (q20 : Nat) (q21 : Nat) (q22 : Nat) (q23 : Nat) (q24 : Nat) (q25 : Nat) (q26 : Nat) (q27 : Nat) (q28 : Nat) (q29 : Nat) (q30 : Nat) (q31 : Nat) (q32 : Nat) (q33 : Nat) (q34 : Nat) (v_acts : Int32) (v_why : Int32) (v_weddings : Int32) (v_year : Int32) (v_wreck : Nat → Int32) (v_wood : Nat → Int32) (v_length : Nat → Int32) (v_left : Nat → Int32) (v_right : Nat → Int32) (v_place : Nat → Int32) (v_rings : Nat → Int32) (v_piece : Nat → Int32) (v_partner : Nat → Int32) (v_children : Nat → Int32) (v_count : Int32) (v_house : Nat → Int32) (v_reach : Nat → Int32) (v_sounded : Nat → Int32) (v_year2 : Int32) (v_wreck2 : Nat → Int32) (v_wood2 : Nat → Int32) (v_length2 : Nat → Int32) (v_left2 : Nat → Int32) (v_right2 : Nat → Int32) (v_place2 : Nat → Int32) (v_rings2 : Nat → Int32) (v_piece2 : Nat → Int32) (v_partner2 : Nat → Int32) (v_children2 : Nat → Int32) (v_count2 : Int32) (v_house2 : Nat → Int32) (v_reach2 : Nat → Int32) (v_sounded2 : Nat → Int32) (x1 : Int32) (x2 : Int32) (z : Int32 × Int32 × Int32 × Int32 × (Nat → Int32) × (Nat → Int32) × (Nat → Int32) × (Nat → Int32) × (Nat → Int32) × (Nat → Int32) × (Nat → Int32) × (Nat → Int32) × (Nat → Int32) × (Nat → Int32) × Int32 × (Nat → Int32) × (Nat → Int32) × (Nat → Int32)) (hF : fX7_draw v_acts v_why v_weddings v_year v_wreck v_wood v_length v_left v_right v_place v_rings v_piece v_partner v_children v_count v_house v_reach v_sounded v_year2 v_wreck2 v_wood2 v_length2 v_left2 v_right2 v_place2 v_rings2 v_piece2 v_partner2 v_children2 v_count2 v_house2 v_reach2 v_sounded2 x1 x2 = some z) : mp l yX7_draw wtX7_draw rmX7_draw D cI cZ [.ref q0, .int x1, .int x2, .ref q18] (wdX7_draw cI cZ q0 q1 q2 q3 q4 q5 q6 q7 q8 q9 q10 q11 q12 q13 q14 q15 q16 q17 q18 q19 q20 q21 q22 q23 q24 q25 q26 q27 q28 q29 q30 q31 q32 q33 q34 v_acts v_why v_weddings v_year v_wreck v_wood v_length v_left v_right v_place v_rings v_piece v_partner v_children v_count v_house v_reach v_sounded v_year2 v_wreck2 v_wood2 v_length2 v_left2 v_right2 v_place2 v_rings2 v_piece2 v_partner2 v_children2 v_count2 v_house2 v_reach2 v_sounded2) none (wdX7_draw cI cZ q0 q1 q2 q3 q4 q5 q6 q7 q8 q9 q10 q11 q12 q13 q14 q15 q16 q17 q18 q19 q20 q21 q22 q23 q24 q25 q26 q27 q28 q29 q30 q31 q32 q33 q34 z.1 z.2.1 z.2.2.1 z.2.2.2.1 z.2.2.2.2.1 z.2.2.2.2.2.1 z.2.2.2.2.2.2.1 z.2.2.2.2.2.2.2.1 z.2.2.2.2.2.2.2.2.1 z.2.2.2.2.2.2.2.2.2.1 z.2.2.2.2.2.2.2.2.2.2.1 z.2.2.2.2.2.2.2.2.2.2.2.1 z.2.2.2.2.2.2.2.2.2.2.2.2.1 z.2.2.2.2.2.2.2.2.2.2.2.2.2.1 z.2.2.2.2.2.2.2.2.2.2.2.2.2.2.1 z.2.2.2.2.2.2.2.2.2.2.2.2.2.2.2.1 z.2.2.2.2.2.2.2.2.2.2.2.2.2.2.2.2.1 z.2.2.2.2.2.2.2.2.2.2.2.2.2.2.2.2.2 v_year2 v_wreck2 v_wood2 v_length2 v_left2 v_right2 v_place2 v_rings2 v_piece2 v_partner2 v_children2 v_count2 v_house2 v_reach2 v_sounded2) := by
  refine mp_v (lv0 := [(0, .ref q0), (1, .int x1), (2, .int x2), (3, .ref q18)]) cX7_draw 6 (by decide) rfl (Nat.le_of_ble_eq_true rfl) rfl (fun E h hend0 => ?_)
  have hend : ∀ (z' : Int32 × Int32 × Int32 × Int32 × (Nat → Int32) × (Nat → Int32) × (Nat → Int32) × (Nat → Int32) × (Nat → Int32) × (Nat → Int32) × (Nat → Int32) × (Nat → Int32) × (Nat → Int32) × (Nat → Int32) × Int32 × (Nat → Int32) × (Nat → Int32) × (Nat → Int32)), some z' = some z → ∀ (pc : Nat) (lv : List (Nat × Value)), decode cX7_draw pc = .ok (.return_, 1) → G l D E 6 0 0 (wdX7_draw cI cZ q0 q1 q2 q3 q4 q5 q6 q7 q8 q9 q10 q11 q12 q13 q14 q15 q16 q17 q18 q19 q20 q21 q22 q23 q24 q25 q26 q27 q28 q29 q30 q31 q32 q33 q34 (z'.1) (z'.2.1) (z'.2.2.1) (z'.2.2.2.1) (z'.2.2.2.2.1) (z'.2.2.2.2.2.1) (z'.2.2.2.2.2.2.1) (z'.2.2.2.2.2.2.2.1) (z'.2.2.2.2.2.2.2.2.1) (z'.2.2.2.2.2.2.2.2.2.1) (z'.2.2.2.2.2.2.2.2.2.2.1) (z'.2.2.2.2.2.2.2.2.2.2.2.1) (z'.2.2.2.2.2.2.2.2.2.2.2.2.1) (z'.2.2.2.2.2.2.2.2.2.2.2.2.2.1) (z'.2.2.2.2.2.2.2.2.2.2.2.2.2.2.1) (z'.2.2.2.2.2.2.2.2.2.2.2.2.2.2.2.1) (z'.2.2.2.2.2.2.2.2.2.2.2.2.2.2.2.2.1) (z'.2.2.2.2.2.2.2.2.2.2.2.2.2.2.2.2.2) v_year2 v_wreck2 v_wood2 v_length2 v_left2 v_right2 v_place2 v_rings2 v_piece2 v_partner2 v_children2 v_count2 v_house2 v_reach2 v_sounded2) pc lv [] := fun z' e => by cases e; exact hend0
  clear hend0
  have hL11 : ∀ (n11 : Nat) (v_acts : Int32) (v_why : Int32) (v_weddings : Int32) (v_year : Int32) (v_wreck : Nat → Int32) (v_wood : Nat → Int32) (v_length : Nat → Int32) (v_left : Nat → Int32) (v_right : Nat → Int32) (v_place : Nat → Int32) (v_rings : Nat → Int32) (v_piece : Nat → Int32) (v_partner : Nat → Int32) (v_children : Nat → Int32) (v_count : Int32) (v_house : Nat → Int32) (v_reach : Nat → Int32) (v_sounded : Nat → Int32) (x4 : Int32) (x5 : Int32), fX7_draw_11 v_acts v_why v_wreck v_wood v_length v_left v_right v_rings v_count v_house v_reach v_sounded x2 n11 v_weddings v_year v_place v_piece v_partner v_children x4 x5 = some z → G l D E 6 0 0 (wdX7_draw cI cZ q0 q1 q2 q3 q4 q5 q6 q7 q8 q9 q10 q11 q12 q13 q14 q15 q16 q17 q18 q19 q20 q21 q22 q23 q24 q25 q26 q27 q28 q29 q30 q31 q32 q33 q34 v_acts v_why v_weddings v_year v_wreck v_wood v_length v_left v_right v_place v_rings v_piece v_partner v_children v_count v_house v_reach v_sounded v_year2 v_wreck2 v_wood2 v_length2 v_left2 v_right2 v_place2 v_rings2 v_piece2 v_partner2 v_children2 v_count2 v_house2 v_reach2 v_sounded2) 11 [(0, .ref q0), (2, .int x2), (3, .ref q18), (4, .int x4), (5, .int x5)] [] := by
    intro n11
    induction n11 with
    | zero =>
      intro v_acts v_why v_weddings v_year v_wreck v_wood v_length v_left v_right v_place v_rings v_piece v_partner v_children v_count v_house v_reach v_sounded x4 x5 hF
      rw [fX7_draw_11] at hF
      cases hF
    | succ n11 ih11 =>
      intro v_acts v_why v_weddings v_year v_wreck v_wood v_length v_left v_right v_place v_rings v_piece v_partner v_children v_count v_house v_reach v_sounded x4 x5 hF
      rw [fX7_draw_11] at hF
      refine g_iload (np := 13) h 4 rfl dX7_draw_11 rfl ?_
      refine g_iload_n (np := 14) h 1 rfl rfl dX7_draw_13 rfl ?_
      refine g_icmp_ge h hF dX7_draw_14 (np := 17) rfl (tg := 69) rfl (fun c1001 hF => ?_) (fun c1001 hF => ?_)
      · exact hend _ hF _ _ dX7_draw_69
      · refine g_bipush (np := 19) (v := (75 : Int32)) h (by decide) dX7_draw_17 rfl ?_
        refine g_iload (np := 21) h 3 rfl dX7_draw_19 rfl ?_
        refine g_imul (np := 22) h dX7_draw_21 rfl ?_
        refine g_bipush (np := 24) (v := (74 : Int32)) h (by decide) dX7_draw_22 rfl ?_
        refine g_iadd (np := 25) h dX7_draw_24 rfl ?_
        refine g_ldc (np := 27) (v := (65537 : Int32)) h (imX7_draw_own _ (List.mem_of_getElem? (i := 0) rfl)) dX7_draw_25 rfl ?_
        refine g_irem (np := 28) h (by decide) dX7_draw_27 rfl ?_
        refine g_istore (np := 30) (lv' := [(4, .int (jrem (((75 : Int32) * x4) + (74 : Int32)) (65537 : Int32))), (0, .ref q0), (2, .int x2), (3, .ref q18), (5, .int x5)]) h (by decide) rfl dX7_draw_28 rfl ?_
        refine g_aload_n (np := 31) h 1 rfl rfl dX7_draw_30 rfl ?_
        refine g_iload (np := 33) h 0 rfl dX7_draw_31 rfl ?_
        refine g_bipush (np := 35) (v := (8 : Int32)) h (by decide) dX7_draw_33 rfl ?_
        refine g_irem (np := 36) h (by decide) dX7_draw_35 rfl ?_
        refine g_top hF (fun t1002 et1002 hF => ?_)
        refine g_iload (np := 38) h 0 rfl dX7_draw_36 rfl ?_
        refine g_bipush (np := 40) (v := (8 : Int32)) h (by decide) dX7_draw_38 rfl ?_
        refine g_idiv (np := 41) h (by decide) dX7_draw_40 rfl ?_
        refine g_top hF (fun t1003 et1003 hF => ?_)
        refine g_bipush (np := 43) (v := (10 : Int32)) h (by decide) dX7_draw_41 rfl ?_
        refine g_irem (np := 44) h (by decide) dX7_draw_43 rfl ?_
        refine g_iload (np := 46) h 0 rfl dX7_draw_44 rfl ?_
        refine g_bipush (np := 48) (v := (8 : Int32)) h (by decide) dX7_draw_46 rfl ?_
        refine g_idiv (np := 49) h (by decide) dX7_draw_48 rfl ?_
        refine g_top hF (fun t1004 et1004 hF => ?_)
        refine g_bipush (np := 51) (v := (8 : Int32)) h (by decide) dX7_draw_49 rfl ?_
        refine g_irem (np := 52) h (by decide) dX7_draw_51 rfl ?_
        refine g_iload (np := 54) h 0 rfl dX7_draw_52 rfl ?_
        refine g_bipush (np := 56) (v := (64 : Int32)) h (by decide) dX7_draw_54 rfl ?_
        refine g_idiv (np := 57) h (by decide) dX7_draw_56 rfl ?_
        refine g_top hF (fun t1005 et1005 hF => ?_)
        refine g_bipush (np := 59) (v := (8 : Int32)) h (by decide) dX7_draw_57 rfl ?_
        refine g_irem (np := 60) h (by decide) dX7_draw_59 rfl ?_
        obtain ⟨r1006, hr1006, hF⟩ := Option.bind_eq_some_iff.mp hF
        refine g_callV (np := 63) (Wd' := (wdX7_draw cI cZ q0 q1 q2 q3 q4 q5 q6 q7 q8 q9 q10 q11 q12 q13 q14 q15 q16 q17 q18 q19 q20 q21 q22 q23 q24 q25 q26 q27 q28 q29 q30 q31 q32 q33 q34 v_acts v_why r1006.1 r1006.2.1 v_wreck v_wood v_length v_left v_right r1006.2.2.1 v_rings r1006.2.2.2.1 r1006.2.2.2.2.1 r1006.2.2.2.2.2 v_count v_house v_reach v_sounded v_year2 v_wreck2 v_wood2 v_length2 v_left2 v_right2 v_place2 v_rings2 v_piece2 v_partner2 v_children2 v_count2 v_house2 v_reach2 v_sounded2)) (As := [.int t1002, .int (jrem t1003 (10 : Int32)), .int (jrem t1004 (8 : Int32)), .int (jrem t1005 (8 : Int32))]) h (mX7_drawnAct l D cI cZ q0 q1 q2 q3 q8 q10 q11 q12 q13 q14 q4 q5 q6 q7 q9 v_weddings v_year v_wreck v_place v_piece v_partner v_children v_acts v_why t1002 (jrem t1003 (10 : Int32)) (jrem t1004 (8 : Int32)) (jrem t1005 (8 : Int32)) r1006 hr1006) gcX7_draw_X7_drawnAct rfl ⟨rfl, rfl⟩ ⟨rfl, hyX7_drawnAct⟩ rfl 7 0 rfl rfl rfl rfl rfl rfl ⟨Nat.zero_le _, Nat.zero_le _⟩ [0, 1, 2, 3, 8, 10, 11, 12, 13] [4, 5, 6, 7, 9, 14, 15, 16, 17, 18, 19, 20, 21, 22, 23, 24, 25, 26, 27, 28, 29, 30, 31, 32, 33, 34] (N := 35) (by decide +kernel) rfl rfl rfl rfl rfl dX7_draw_60 rfl ?_
        refine g_iinc (np := 66) (v := (x5 + (1 : Int32))) (lv' := [(5, .int (x5 + (1 : Int32))), (4, .int (jrem (((75 : Int32) * x4) + (74 : Int32)) (65537 : Int32))), (0, .ref q0), (2, .int x2), (3, .ref q18)]) h 4 rfl rfl (by decide) rfl dX7_draw_63 rfl ?_
        refine g_goto h dX7_draw_66 (np := 11) rfl ?_
        refine g_lv [2, 3, 4, 1, 0] rfl ?_
        exact ih11 v_acts v_why r1006.1 r1006.2.1 v_wreck v_wood v_length v_left v_right r1006.2.2.1 v_rings r1006.2.2.2.1 r1006.2.2.2.2.1 r1006.2.2.2.2.2 v_count v_house v_reach v_sounded (jrem (((75 : Int32) * x4) + (74 : Int32)) (65537 : Int32)) (x5 + (1 : Int32)) hF
  unfold fX7_draw at hF
  refine g_aload_n (np := 1) h 0 rfl rfl dX7_draw_0 rfl ?_
  refine g_aload_n (np := 2) h 3 rfl rfl dX7_draw_1 rfl ?_
  obtain ⟨r1, hr1, hF⟩ := Option.bind_eq_some_iff.mp hF
  refine g_callV (np := 5) (Wd' := (wdX7_draw cI cZ q0 q1 q2 q3 q4 q5 q6 q7 q8 q9 q10 q11 q12 q13 q14 q15 q16 q17 q18 q19 q20 q21 q22 q23 q24 q25 q26 q27 q28 q29 q30 q31 q32 q33 q34 r1.1 r1.2.1 r1.2.2.1 r1.2.2.2.1 r1.2.2.2.2.1 r1.2.2.2.2.2.1 r1.2.2.2.2.2.2.1 r1.2.2.2.2.2.2.2.1 r1.2.2.2.2.2.2.2.2.1 r1.2.2.2.2.2.2.2.2.2.1 r1.2.2.2.2.2.2.2.2.2.2.1 r1.2.2.2.2.2.2.2.2.2.2.2.1 r1.2.2.2.2.2.2.2.2.2.2.2.2.1 r1.2.2.2.2.2.2.2.2.2.2.2.2.2.1 r1.2.2.2.2.2.2.2.2.2.2.2.2.2.2.1 r1.2.2.2.2.2.2.2.2.2.2.2.2.2.2.2.1 r1.2.2.2.2.2.2.2.2.2.2.2.2.2.2.2.2.1 r1.2.2.2.2.2.2.2.2.2.2.2.2.2.2.2.2.2 v_year2 v_wreck2 v_wood2 v_length2 v_left2 v_right2 v_place2 v_rings2 v_piece2 v_partner2 v_children2 v_count2 v_house2 v_reach2 v_sounded2)) (As := [.ref q18]) h (mX7_begin l D cI cZ q0 q1 q2 q3 q4 q5 q6 q7 q8 q9 q10 q11 q12 q13 q14 q15 q16 q17 q18 q19 q20 q21 q22 q23 q24 q25 q26 q27 q28 q29 q30 q31 q32 q33 q34 v_acts v_why v_weddings v_year v_wreck v_wood v_length v_left v_right v_place v_rings v_piece v_partner v_children v_count v_house v_reach v_sounded v_year2 v_wreck2 v_wood2 v_length2 v_left2 v_right2 v_place2 v_rings2 v_piece2 v_partner2 v_children2 v_count2 v_house2 v_reach2 v_sounded2 r1 hr1) gcX7_draw_X7_begin rfl ⟨rfl, rfl⟩ ⟨rfl, hyX7_begin⟩ rfl 7 0 rfl rfl rfl rfl rfl rfl ⟨Nat.zero_le _, Nat.zero_le _⟩ [0, 1, 2, 3, 4, 5, 6, 7, 8, 9, 10, 11, 12, 13, 14, 15, 16, 17, 18, 19, 20, 21, 22, 23, 24, 25, 26, 27, 28, 29, 30, 31, 32, 33, 34] [] (N := 35) (by decide +kernel) rfl rfl rfl rfl rfl dX7_draw_2 rfl ?_
  refine g_iload_n (np := 6) h 1 rfl rfl dX7_draw_5 rfl ?_
  refine g_istore (np := 8) (lv' := [(4, .int x1), (0, .ref q0), (1, .int x1), (2, .int x2), (3, .ref q18)]) h (by decide) rfl dX7_draw_6 rfl ?_
  refine g_iconst (np := 9) (v := (0 : Int32)) h (by decide) dX7_draw_8 rfl ?_
  refine g_istore (np := 11) (lv' := [(5, .int (0 : Int32)), (4, .int x1), (0, .ref q0), (1, .int x1), (2, .int x2), (3, .ref q18)]) h (by decide) rfl dX7_draw_9 rfl ?_
  refine g_lv [2, 4, 5, 1, 0] rfl ?_
  exact hL11 _ r1.1 r1.2.1 r1.2.2.1 r1.2.2.2.1 r1.2.2.2.2.1 r1.2.2.2.2.2.1 r1.2.2.2.2.2.2.1 r1.2.2.2.2.2.2.2.1 r1.2.2.2.2.2.2.2.2.1 r1.2.2.2.2.2.2.2.2.2.1 r1.2.2.2.2.2.2.2.2.2.2.1 r1.2.2.2.2.2.2.2.2.2.2.2.1 r1.2.2.2.2.2.2.2.2.2.2.2.2.1 r1.2.2.2.2.2.2.2.2.2.2.2.2.2.1 r1.2.2.2.2.2.2.2.2.2.2.2.2.2.2.1 r1.2.2.2.2.2.2.2.2.2.2.2.2.2.2.2.1 r1.2.2.2.2.2.2.2.2.2.2.2.2.2.2.2.2.1 r1.2.2.2.2.2.2.2.2.2.2.2.2.2.2.2.2.2 x1 (0 : Int32) hF
end
